/** Promises 1 to 6, sentence by sentence: the edges of a new object, file, under, act, loader, offer. */
final class EdgesOfFilesTest {
    private static final Check CHECK = new Check("EdgesOfFilesTest");
    private static final Edges EDGES = new Edges(CHECK);
    private static final int BAD = Edges.BAD, FULL = Edges.FULL, NOT = Edges.NOT;
    private static final int LEAST = Edges.LEAST, MOST = Edges.MOST;

    public static void main(String[] args) {
        EDGES.runAll(EdgesOfFilesTest.class, 1, 2, 3, 4, 5, 6);
        CHECK.end();
    }

    /** FILES 0, 1 of inner NAMES 5, 6, not OFFERED; FILE 2 OFFERED by LOADER 1 for 7; FILE 3, with the NAME 8. */
    private static ContractLoaders fourFiles() {
        ContractLoaders x = Edges.loaders(0);
        x.file(5, -1, false, false, 1);
        x.file(6, -1, false, false, 1);
        Edges.plain(x, 1, 7);
        x.file(8, -1, false, false, 1);
        return x;
    }

    private static ContractLoaders fullOfFiles() {
        ContractLoaders x = new ContractLoaders();
        for (int n = 0; n < 24; n++) {
            x.file(n, -1, false, false, 0);
        }
        return x;
    }

    private static ContractLoaders fullOfLoaders() {
        return Edges.loaders(0, 1, 2, 3, 4, 5, 6);
    }

    // Promise 1: a new object

    /** "THE ENGINE alone, without FILES." */
    static void promise1TheEngineAloneWithoutFiles() {
        ContractLoaders x = new ContractLoaders();
        int[] counts = {0, 1, 0, 0, 0, 0, 0, 0};
        for (int what = 0; what < 8; what++) {
            CHECK.due("count(" + what + ")", x.count(what), counts[what]);
        }
        CHECK.due("told(0, 4)", x.told(0, 4), 0);
        CHECK.due("told(0, 5)", x.told(0, 5), 0);
        CHECK.due("told(1, 4)", x.told(1, 4), BAD);
        for (int name = 0; name < 30; name++) {
            CHECK.due("find(0, " + name + ")", x.find(0, name), Edges.failure(1));
        }
    }

    /** "THE ENGINE alone": what one object is told is nothing to another. */
    static void promise1EachObjectByItself() {
        ContractLoaders other = new ContractLoaders();
        String before = Edges.shown(other);
        ContractLoaders x = Edges.one(Edges.INTS, Edges.ADD, 0, 1);
        x.loader(0);
        CHECK.due("call", x.call(0, 0, 5), 1);
        CHECK.due("the other is as it was", Edges.shown(other).equals(before) ? 1 : 0, 1);
        CHECK.due("a third one is new", Edges.shown(new ContractLoaders()).equals(before) ? 1 : 0, 1);
    }

    // Promise 2: file

    /** "NAMES are 0 .. 29": "BAD: a NAME". */
    static void promise2InnerNameIsNone() {
        for (int inner : Edges.NO_NAMES) {
            EDGES.refused("file(" + inner + ")", ContractLoaders::new, x -> x.file(inner, -1, false, false, 0), BAD);
        }
    }

    /** "NAMES are 0 .. 29": the least and the greatest are some. */
    static void promise2InnerNameAtTheEnds() {
        ContractLoaders x = new ContractLoaders();
        CHECK.due("file(0)", x.file(0, -1, false, false, 0), 0);
        CHECK.due("file(29)", x.file(29, -1, false, false, 0), 1);
        x.offer(0, 0, 0);
        x.offer(0, 29, 1);
        CHECK.due("find(0, 0)", x.find(0, 0), 0);
        CHECK.due("find(0, 29)", x.find(0, 29), 29);
    }

    /** "BAD: superName (-1 none)": -2 and 30 are neither. */
    static void promise2SuperNameIsNone() {
        int[] none = {-2, 30, LEAST, MOST};
        for (int s : none) {
            EDGES.refused("file(5, " + s + ")", ContractLoaders::new, x -> x.file(5, s, false, false, 0), BAD);
        }
    }

    /** "superName (-1 none)": the CLASS has no SUPER then. */
    static void promise2SuperNameMinusOneIsNoSuper() {
        ContractLoaders x = new ContractLoaders();
        CHECK.due("file(5, -1)", x.file(5, -1, false, false, 0), 0);
        x.offer(0, 5, 0);
        CHECK.due("found without any other", x.find(0, 5), 5);
        CHECK.due("made", x.count(4), 1);
    }

    /** "superName (-1 none)": 0 is a NAME, and 29 is. */
    static void promise2SuperNameAtTheEnds() {
        ContractLoaders x = new ContractLoaders();
        CHECK.due("file(5, 0)", x.file(5, 0, false, false, 0), 0);
        CHECK.due("file(6, 29)", x.file(6, 29, false, false, 0), 1);
        x.offer(0, 5, 0);
        x.offer(0, 6, 1);
        CHECK.due("no super 0", x.find(0, 5), Edges.failure(2));
        CHECK.due("no super 29", x.find(0, 6), Edges.failure(2));
        Edges.plain(x, 0, 0);
        Edges.plain(x, 0, 29);
        CHECK.due("5 below 0", x.below(0, 5, 0, 0), 1);
        CHECK.due("6 below 29", x.below(0, 6, 0, 29), 1);
    }

    /** "a LANE (0 bytes, 1 ints, 2 longs, 3 doubles)": "BAD: LANE". */
    static void promise2LaneIsNone() {
        int[] none = {-1, 4, LEAST, MOST};
        for (int lane : none) {
            EDGES.refused("file(lane " + lane + ")", ContractLoaders::new, x -> x.file(5, -1, false, false, lane), BAD);
        }
    }

    /** "a LANE (0 bytes, 1 ints, 2 longs, 3 doubles)": each of them is one. */
    static void promise2LanesAtTheEnds() {
        ContractLoaders x = new ContractLoaders();
        for (int lane = 0; lane < 4; lane++) {
            CHECK.due("file(lane " + lane + ")", x.file(5 + lane, -1, false, false, lane), lane);
            x.offer(0, 5 + lane, lane);
            x.deploy(0, 5 + lane);
            CHECK.due("its lane", x.told(lane, 2), lane);
        }
    }

    /** "FILES 0, 1, .. (24)": the 24th has its number, the 25th is FULL. */
    static void promise2FullAtTheTwentyFifth() {
        ContractLoaders x = new ContractLoaders();
        for (int n = 0; n < 24; n++) {
            CHECK.due("file " + n, x.file(n, -1, false, false, 0), n);
            CHECK.due("files", x.count(0), n + 1);
        }
        CHECK.due("the 25th", x.file(5, -1, false, false, 0), FULL);
        CHECK.due("the last one is there", x.offer(0, 23, 23), 1);
        CHECK.due("one behind it is not", x.offer(0, 24, 24), BAD);
    }

    /** "FULL": it changes nothing. */
    static void promise2FullChangesNothing() {
        EDGES.refused("the 25th", EdgesOfFilesTest::fullOfFiles, x -> x.file(5, -1, false, false, 0), FULL);
    }

    /** "BAD ..; FULL": BAD is ahead. */
    static void promise2BadAheadOfFull() {
        EDGES.refused("inner", EdgesOfFilesTest::fullOfFiles, x -> x.file(30, -1, false, false, 0), BAD);
        EDGES.refused("super", EdgesOfFilesTest::fullOfFiles, x -> x.file(5, -2, false, false, 0), BAD);
        EDGES.refused("lane", EdgesOfFilesTest::fullOfFiles, x -> x.file(5, -1, false, false, 4), BAD);
    }

    /** "A FILE: its number": a refused one takes none. */
    static void promise2RefusedTakesNoNumber() {
        ContractLoaders x = new ContractLoaders();
        CHECK.due("first", x.file(5, -1, false, false, 0), 0);
        CHECK.due("refused", x.file(30, -1, false, false, 0), BAD);
        CHECK.due("second", x.file(5, -1, false, false, 0), 1);
    }

    /** "up to 2 FACES", "three METHODS 0 .. 2 of up to 5 ACTS each, none at first". */
    static void promise2NothingAtFirst() {
        ContractLoaders x = new ContractLoaders();
        Edges.plain(x, 0, 5);
        CHECK.due("no face to be found", x.find(0, 5), 5);
        x.deploy(0, 5);
        for (int m = 0; m < 3; m++) {
            CHECK.due("no acts of " + m, x.call(0, m, 5), Edges.failure(14));
        }
        int f = x.file(6, -1, false, false, 0);
        for (int m = 0; m < 3; m++) {
            CHECK.due("the first act of " + m, x.act(f, m, Edges.PLUS, 0, 1), 1);
        }
        CHECK.due("the first face", x.under(f, 5), 1);
    }

    // Promise 3: under

    /** "BAD": there is no such FILE. */
    static void promise3FileIsNone() {
        int[] none = {-1, 4, 24, LEAST, MOST};
        for (int f : none) {
            EDGES.refused("under(" + f + ", 5)", EdgesOfFilesTest::fourFiles, x -> x.under(f, 5), BAD);
        }
        CHECK.due("without files", new ContractLoaders().under(0, 5), BAD);
        CHECK.due("the last one of 24", fullOfFiles().under(23, 5), 1);
        CHECK.due("behind the last of 24", fullOfFiles().under(24, 5), BAD);
    }

    /** "BAD": no NAME; a refused one is not counted. */
    static void promise3NameIsNone() {
        for (int name : Edges.NO_NAMES) {
            EDGES.refused("under(0, " + name + ")", EdgesOfFilesTest::fourFiles, x -> x.under(0, name), BAD);
            ContractLoaders x = fourFiles();
            x.under(0, name);
            CHECK.due("the first one behind " + name, x.under(0, 5), 1);
        }
    }

    /** "NAMES are 0 .. 29": a FACE 0 and a FACE 29. */
    static void promise3NameAtTheEnds() {
        ContractLoaders x = new ContractLoaders();
        x.file(5, -1, false, false, 0);
        CHECK.due("under(0, 0)", x.under(0, 0), 1);
        CHECK.due("under(0, 29)", x.under(0, 29), 2);
        x.offer(0, 5, 0);
        Edges.face(x, 0, 0);
        Edges.face(x, 0, 29);
        CHECK.due("5 below 0", x.below(0, 5, 0, 0), 1);
        CHECK.due("5 below 29", x.below(0, 5, 0, 29), 1);
    }

    /** "up to 2 FACES": "how many", and the third is FULL. */
    static void promise3FullAtTheThird() {
        ContractLoaders x = fourFiles();
        CHECK.due("first", x.under(0, 10), 1);
        CHECK.due("second", x.under(0, 11), 2);
        CHECK.due("third", x.under(0, 12), FULL);
        CHECK.due("third again", x.under(0, 12), FULL);
        CHECK.due("another file has its own", x.under(1, 12), 1);
        CHECK.due("a name twice counts twice", x.under(1, 12), 2);
        CHECK.due("and then it is full", x.under(1, 12), FULL);
    }

    /** "FULL": the CLASS has the two FACES and not the third, which could not be FOUND. */
    static void promise3FullChangesNothing() {
        ContractLoaders x = fourFiles();
        x.under(0, 10);
        x.under(0, 11);
        CHECK.due("third", x.under(0, 12), FULL);
        Edges.face(x, 1, 10);
        Edges.face(x, 1, 11);
        x.offer(1, 5, 0);
        CHECK.due("found", x.find(1, 5), 105);
        CHECK.due("below the first", x.below(1, 5, 1, 10), 1);
        CHECK.due("below the second", x.below(1, 5, 1, 11), 1);
        Edges.face(x, 1, 12);
        CHECK.due("not below the third", x.below(1, 5, 1, 12), 0);
    }

    /** "NOT: some LOADER OFFERS the FILE": any LOADER, for any NAME. */
    static void promise3NotOfAnOfferedFile() {
        EDGES.refused("offered by 1", EdgesOfFilesTest::fourFiles, x -> x.under(2, 10), NOT);
        ContractLoaders x = fourFiles();
        CHECK.due("not offered yet", x.under(3, 10), 1);
        x.offer(0, 20, 3);
        CHECK.due("offered by the engine, for another name", x.under(3, 10), NOT);
        CHECK.due("a file that is not offered", x.under(0, 10), 1);
    }

    /** "NOT": the CLASS has no such FACE, which could not be FOUND. */
    static void promise3NotChangesNothing() {
        ContractLoaders x = fourFiles();
        CHECK.due("under", x.under(2, 10), NOT);
        CHECK.due("found", x.find(1, 7), 107);
        Edges.face(x, 1, 10);
        CHECK.due("not below it", x.below(1, 7, 1, 10), 0);
    }

    /** "BAD; NOT ..; FULL": in this order. */
    static void promise3Order() {
        ContractLoaders x = fourFiles();
        x.under(0, 10);
        x.under(0, 11);
        CHECK.due("BAD ahead of FULL", x.under(0, 30), BAD);
        x.offer(1, 5, 0);
        CHECK.due("NOT ahead of FULL", x.under(0, 12), NOT);
        CHECK.due("BAD ahead of NOT", x.under(0, -1), BAD);
    }

    // Promise 4: act

    /** "BAD": there is no such FILE. */
    static void promise4FileIsNone() {
        int[] none = {-1, 4, 24, LEAST, MOST};
        for (int f : none) {
            EDGES.refused("act(" + f + ")", EdgesOfFilesTest::fourFiles, x -> x.act(f, 0, Edges.PLUS, 0, 0), BAD);
        }
        CHECK.due("without files", new ContractLoaders().act(0, 0, Edges.PLUS, 0, 0), BAD);
        CHECK.due("the last one of 24", fullOfFiles().act(23, 0, Edges.PLUS, 0, 0), 1);
        CHECK.due("behind the last of 24", fullOfFiles().act(24, 0, Edges.PLUS, 0, 0), BAD);
    }

    /** "three METHODS 0 .. 2": "BAD". */
    static void promise4MethodIsNone() {
        int[] none = {-1, 3, LEAST, MOST};
        for (int m : none) {
            EDGES.refused("act(0, " + m + ")", EdgesOfFilesTest::fourFiles, x -> x.act(0, m, Edges.PLUS, 0, 0), BAD);
        }
        for (int m = 0; m < 3; m++) {
            CHECK.due("act(0, " + m + ")", fourFiles().act(0, m, Edges.PLUS, 0, 0), 1);
        }
    }

    /** "BAD: kind 0 .. 11". */
    static void promise4KindIsNone() {
        int[] none = {-1, 12, LEAST, MOST};
        for (int kind : none) {
            EDGES.refused("kind " + kind, EdgesOfFilesTest::fourFiles, x -> x.act(0, 0, kind, 0, 0), BAD);
        }
        for (int kind = 0; kind < 12; kind++) {
            CHECK.due("kind " + kind, fourFiles().act(0, 0, kind, 0, 0), 1);
        }
    }

    /** "BAD: a of 6, 7 is no NAME". */
    static void promise4NameToFindIsNone() {
        for (int kind = Edges.FIND; kind <= Edges.AS; kind++) {
            int k = kind;
            for (int a : Edges.NO_NAMES) {
                EDGES.refused(k + " of " + a, EdgesOfFilesTest::fourFiles, x -> x.act(0, 0, k, a, 0), BAD);
            }
            CHECK.due(kind + " of 0", fourFiles().act(0, 0, kind, 0, 0), 1);
            CHECK.due(kind + " of 29", fourFiles().act(0, 0, kind, 29, 0), 1);
        }
    }

    /** "BAD: a of 8 not 0 .. 9". */
    static void promise4FailIsNone() {
        int[] none = {-1, 10, LEAST, MOST};
        for (int a : none) {
            EDGES.refused("FAIL " + a, EdgesOfFilesTest::fourFiles, x -> x.act(0, 0, Edges.FAIL, a, 0), BAD);
        }
        CHECK.due("FAIL 0", fourFiles().act(0, 0, Edges.FAIL, 0, 0), 1);
        CHECK.due("FAIL 9", fourFiles().act(0, 0, Edges.FAIL, 9, 0), 1);
    }

    /** "BAD: b of 5 is below 0 or above 89". */
    static void promise4CallIsNone() {
        int[] none = {-1, 90, LEAST, MOST};
        for (int b : none) {
            EDGES.refused("CALL " + b, EdgesOfFilesTest::fourFiles, x -> x.act(0, 0, Edges.CALL, 0, b), BAD);
        }
        CHECK.due("CALL 0", fourFiles().act(0, 0, Edges.CALL, 0, 0), 1);
        CHECK.due("CALL 89", fourFiles().act(0, 0, Edges.CALL, 0, 89), 1);
    }

    /** "(Other numbers as told in them.)": none else is BAD, whatever it is. */
    static void promise4OtherNumbersAreFree() {
        int[] any = {LEAST, -1, 0, 4, 30, 90, MOST};
        for (int n : any) {
            for (int kind = 0; kind < 12; kind++) {
                int a = kind == Edges.FIND || kind == Edges.AS || kind == Edges.FAIL ? 0 : n;
                int b = kind == Edges.CALL ? 0 : n;
                CHECK.due("kind " + kind + " with " + n, fourFiles().act(0, 0, kind, a, b), 1);
            }
        }
    }

    /** "up to 5 ACTS each": "how many it has", the sixth is FULL, of that METHOD alone. */
    static void promise4FullAtTheSixth() {
        ContractLoaders x = fourFiles();
        for (int m = 0; m < 3; m++) {
            for (int n = 1; n <= 5; n++) {
                CHECK.due("act " + n + " of " + m, x.act(0, m, Edges.PLUS, 0, 1), n);
            }
            CHECK.due("the sixth of " + m, x.act(0, m, Edges.PLUS, 0, 1), FULL);
        }
        CHECK.due("another file has its own", x.act(1, 0, Edges.PLUS, 0, 1), 1);
    }

    /** "FULL": what is worked are the five, each METHOD's own. */
    static void promise4FullChangesNothing() {
        ContractLoaders x = fourFiles();
        for (int m = 0; m < 3; m++) {
            for (int n = 0; n < 6; n++) {
                x.act(0, m, Edges.PLUS, 0, n == 5 ? 7000 : 100 * m + n);
            }
        }
        x.offer(1, 5, 0);
        x.deploy(1, 5);
        for (int m = 0; m < 3; m++) {
            CHECK.due("call of " + m, x.call(0, m, 0), 1);
            CHECK.due("its value", x.value(), 5 * 100 * m + 10);
        }
        CHECK.due("steps", x.count(5), 15);
    }

    /** "NOT as under()": nothing is added to it. */
    static void promise4NotOfAnOfferedFile() {
        EDGES.refused("offered by 1", EdgesOfFilesTest::fourFiles, x -> x.act(2, 0, Edges.PLUS, 0, 1), NOT);
        ContractLoaders x = fourFiles();
        x.act(2, 0, Edges.PLUS, 0, 1);
        x.deploy(1, 7);
        CHECK.due("it has none", x.call(0, 0, 5), Edges.failure(14));
        CHECK.due("not offered yet", x.act(3, 0, Edges.PLUS, 0, 1), 1);
        x.offer(0, 20, 3);
        CHECK.due("offered by the engine, for another name", x.act(3, 0, Edges.PLUS, 0, 1), NOT);
    }

    /** "BAD ..; NOT ..; FULL": in this order. */
    static void promise4Order() {
        ContractLoaders x = fourFiles();
        for (int n = 0; n < 5; n++) {
            x.act(0, 0, Edges.PLUS, 0, 1);
        }
        CHECK.due("BAD ahead of FULL", x.act(0, 0, Edges.FAIL, 10, 0), BAD);
        x.offer(1, 5, 0);
        CHECK.due("NOT ahead of FULL", x.act(0, 0, Edges.PLUS, 0, 1), NOT);
        CHECK.due("BAD ahead of NOT", x.act(0, 0, Edges.FIND, 30, 0), BAD);
        CHECK.due("BAD kind ahead of NOT", x.act(0, 0, 12, 0, 0), BAD);
        CHECK.due("BAD method ahead of NOT", x.act(0, 3, Edges.PLUS, 0, 0), BAD);
    }

    /** "An ACT more": a refused one is not counted. */
    static void promise4RefusedIsNotCounted() {
        ContractLoaders x = fourFiles();
        CHECK.due("first", x.act(0, 0, Edges.PLUS, 0, 1), 1);
        CHECK.due("refused", x.act(0, 0, Edges.FAIL, 10, 1), BAD);
        CHECK.due("second", x.act(0, 0, Edges.PLUS, 0, 1), 2);
    }

    // Promise 5: loader

    /** "each with a PARENT, an earlier one": "BAD", and none is itself. */
    static void promise5ParentIsNone() {
        int[] none = {-1, 3, 4, 7, 8, LEAST, MOST};
        for (int p : none) {
            EDGES.refused("loader(" + p + ")", () -> Edges.loaders(0, 1), x -> x.loader(p), BAD);
        }
        CHECK.due("the first can't be its own", new ContractLoaders().loader(1), BAD);
    }

    /** "each with a PARENT, an earlier one": the first and the latest. */
    static void promise5ParentAtTheEnds() {
        ContractLoaders x = Edges.loaders(0, 1, 2, 3, 4, 5);
        CHECK.due("loader(6)", x.loader(6), 7);
        CHECK.due("its parent", x.told(7, 3), 6);
        ContractLoaders y = Edges.loaders(0, 1, 2, 3, 4, 5);
        CHECK.due("loader(0)", y.loader(0), 7);
        CHECK.due("its parent", y.told(7, 3), 0);
    }

    /** "LOADERS: .. (8 in all)": with the engine; the ninth is FULL. */
    static void promise5FullAtTheNinth() {
        ContractLoaders x = new ContractLoaders();
        for (int n = 1; n < 8; n++) {
            CHECK.due("loader " + n, x.loader(n - 1), n);
            CHECK.due("loaders", x.count(1), n + 1);
        }
        CHECK.due("the ninth", x.loader(0), FULL);
        CHECK.due("the ninth, under the last", x.loader(7), FULL);
    }

    /** "FULL": it changes nothing. */
    static void promise5FullChangesNothing() {
        EDGES.refused("the ninth", EdgesOfFilesTest::fullOfLoaders, x -> x.loader(0), FULL);
        ContractLoaders x = fullOfLoaders();
        x.loader(0);
        CHECK.due("there is no loader 8", x.find(8, 5), BAD);
    }

    /** "BAD; FULL": BAD is ahead. */
    static void promise5BadAheadOfFull() {
        EDGES.refused("loader(8)", EdgesOfFilesTest::fullOfLoaders, x -> x.loader(8), BAD);
        EDGES.refused("loader(-1)", EdgesOfFilesTest::fullOfLoaders, x -> x.loader(-1), BAD);
    }

    /** "A LOADER: its number": a refused one takes none. */
    static void promise5RefusedTakesNoNumber() {
        ContractLoaders x = new ContractLoaders();
        CHECK.due("first", x.loader(0), 1);
        CHECK.due("refused", x.loader(2), BAD);
        CHECK.due("second", x.loader(1), 2);
    }

    // Promise 6: offer

    /** "BAD": there is no such LOADER. */
    static void promise6LoaderIsNone() {
        int[] none = {-1, 2, 8, LEAST, MOST};
        for (int l : none) {
            EDGES.refused("offer(" + l + ", 5, 0)", EdgesOfFilesTest::fourFiles, x -> x.offer(l, 5, 0), BAD);
        }
    }

    /** "BAD": no NAME. */
    static void promise6NameIsNone() {
        for (int name : Edges.NO_NAMES) {
            EDGES.refused("offer(1, " + name + ", 0)", EdgesOfFilesTest::fourFiles, x -> x.offer(1, name, 0), BAD);
        }
    }

    /** "BAD": there is no such FILE. */
    static void promise6FileIsNone() {
        int[] none = {-1, 4, 24, LEAST, MOST};
        for (int f : none) {
            EDGES.refused("offer(1, 5, " + f + ")", EdgesOfFilesTest::fourFiles, x -> x.offer(1, 5, f), BAD);
        }
        CHECK.due("the last one", fourFiles().offer(1, 8, 3), 1);
    }

    /** "NAMES are 0 .. 29": each LOADER can OFFER each of them, the engine's too. */
    static void promise6NameAtTheEnds() {
        ContractLoaders x = fourFiles();
        CHECK.due("offer(1, 0, 0)", x.offer(1, 0, 0), 1);
        CHECK.due("offer(1, 29, 0)", x.offer(1, 29, 0), 1);
        CHECK.due("offer(0, 4, 0)", x.offer(0, 4, 0), 1);
        CHECK.due("names of 1", x.told(1, 5), 3);
        CHECK.due("names of 0", x.told(0, 5), 1);
    }

    /** "A LOADER OFFERS a FILE for a NAME, once": "NOT: it OFFERS one already", the same one or another. */
    static void promise6NotTwice() {
        EDGES.refused("the same again", EdgesOfFilesTest::fourFiles, x -> x.offer(1, 7, 2), NOT);
        EDGES.refused("another", EdgesOfFilesTest::fourFiles, x -> x.offer(1, 7, 0), NOT);
    }

    /** "NOT": the first FILE stays, and the refused one is not OFFERED by it. */
    static void promise6NotChangesNothing() {
        ContractLoaders x = fourFiles();
        CHECK.due("another", x.offer(1, 7, 0), NOT);
        CHECK.due("the first one's inner name fits", x.find(1, 7), 107);
        CHECK.due("the other is not offered", x.under(0, 5), 1);
    }

    /** "BAD; NOT": BAD is ahead. */
    static void promise6BadAheadOfNot() {
        EDGES.refused("no file", EdgesOfFilesTest::fourFiles, x -> x.offer(1, 7, 4), BAD);
        EDGES.refused("no file below", EdgesOfFilesTest::fourFiles, x -> x.offer(1, 7, -1), BAD);
    }

    /** "A LOADER OFFERS a FILE for a NAME, once": another LOADER, another NAME are other offers of it. */
    static void promise6OnceForEachLoaderAndName() {
        ContractLoaders x = fourFiles();
        CHECK.due("for another name", x.offer(1, 8, 2), 1);
        CHECK.due("at another loader", x.offer(0, 7, 2), 1);
        CHECK.due("each of its own", x.find(0, 7), 7);
        CHECK.due("its inner name is another", x.find(1, 8), Edges.failure(2));
    }
}

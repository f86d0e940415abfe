/** Promises 7 to 10, sentence by sentence: the edges of find, define, release, below, and of part 2 of the Terms. */
final class EdgesOfLoadersTest {
    private static final Check CHECK = new Check("EdgesOfLoadersTest");
    private static final Edges EDGES = new Edges(CHECK);
    private static final int BAD = Edges.BAD;
    private static final int[] NO_LOADERS = {-1, 3, 8, Edges.LEAST, Edges.MOST};
    private static final int NOT_FOUND = Edges.failure(1), NOT_DEFINED = Edges.failure(2), THERE = Edges.failure(3),
            ENGINES = Edges.failure(4), CIRCLE = Edges.failure(5), FACE_OR_NOT = Edges.failure(6),
            LAST = Edges.failure(7), TOO_TALL = Edges.failure(17);

    public static void main(String[] args) {
        EDGES.runAll(EdgesOfLoadersTest.class, 7, 8, 9, 10);
        CHECK.end();
    }

    /** LOADERS 0, 1 under it, 2 under that; a CLASS 5 that can be MADE at each. */
    private static ContractLoaders three() {
        ContractLoaders x = Edges.loaders(0, 1);
        int f = x.file(5, -1, false, false, 1);
        for (int l = 0; l < 3; l++) {
            x.offer(l, 5, f);
        }
        return x;
    }

    /** LOADERS 0, 1, 2, each under the one before. */
    private static ContractLoaders chain() {
        return Edges.loaders(0, 1);
    }

    // Promise 7: find

    /** "BAD": there is no such LOADER. */
    static void promise7LoaderIsNone() {
        for (int l : NO_LOADERS) {
            EDGES.refused("find(" + l + ", 5)", EdgesOfLoadersTest::three, x -> x.find(l, 5), BAD);
        }
    }

    /** "BAD": no NAME. */
    static void promise7NameIsNone() {
        for (int name : Edges.NO_NAMES) {
            EDGES.refused("find(2, " + name + ")", EdgesOfLoadersTest::three, x -> x.find(2, name), BAD);
        }
    }

    /** "(told as 100 times the LOADER and the NAME)": the least and the greatest number. */
    static void promise7ClassNumberAtTheEnds() {
        ContractLoaders x = Edges.loaders(0, 1, 2, 3, 4, 5, 6);
        Edges.plain(x, 0, 0);
        Edges.plain(x, 7, 29);
        Edges.plain(x, 7, 5);
        CHECK.due("find(0, 0)", x.find(0, 0), 0);
        CHECK.due("find(7, 0)", x.find(7, 0), 0);
        CHECK.due("find(7, 29)", x.find(7, 29), 729);
        CHECK.due("find(7, 5)", x.find(7, 5), 705);
    }

    /** "(1) a CLASS of L and that NAME that is there: that", though its PARENTS could make one, or have one. */
    static void promise7ThereAtTheLoaderItself() {
        ContractLoaders x = chain();
        Edges.plain(x, 2, 5);
        CHECK.due("offered at 2 alone", x.find(2, 5), 205);
        Edges.plain(x, 0, 5);
        CHECK.due("there at 2, offered at 0", x.find(2, 5), 205);
        CHECK.due("found at 1", x.find(1, 5), 5);
        CHECK.due("there at 2, there at 0", x.find(2, 5), 205);
        CHECK.due("made", x.count(4), 2);
    }

    /** "(2) If L has a PARENT: FIND it there": what is there at a PARENT is ahead of what still farther ones OFFER. */
    static void promise7ThereAtTheParent() {
        ContractLoaders x = chain();
        Edges.plain(x, 1, 5);
        Edges.plain(x, 2, 5);
        CHECK.due("made at 1", x.find(2, 5), 105);
        Edges.plain(x, 0, 5);
        CHECK.due("there at 1, offered at 0", x.find(2, 5), 105);
        CHECK.due("none made at 2", x.told(2, 4), 0);
    }

    /** "(2) If L has a PARENT: FIND it there": the farthest that OFFERS it makes it. */
    static void promise7MadeAtTheFarthest() {
        ContractLoaders x = three();
        CHECK.due("find(2, 5)", x.find(2, 5), 5);
        CHECK.due("classes of 0", x.told(0, 4), 1);
        CHECK.due("classes of 1", x.told(1, 4), 0);
        CHECK.due("classes of 2", x.told(2, 4), 0);
    }

    /** "FAILURE 1 of that goes on here": up to eight LOADERS, the one farthest down makes it. */
    static void promise7FailureOneGoesOn() {
        ContractLoaders x = Edges.loaders(0, 1, 2, 3, 4, 5, 6);
        Edges.plain(x, 7, 5);
        CHECK.due("at 7", x.find(7, 5), 705);
        CHECK.due("not at 6", x.find(6, 5), NOT_FOUND);
    }

    /** "each other one ends it": 2, 4, 5, 6, 7, 17 of the PARENT, though L OFFERS a FILE that fits. */
    static void promise7OtherFailuresOfTheParentEnd() {
        ContractLoaders x = chain();
        x.offer(1, 20, x.file(21, -1, false, false, 1));
        Edges.over(x, 1, 22, 22);
        Edges.over(x, 1, 23, 24);
        Edges.face(x, 1, 24);
        Edges.over(x, 1, 25, 26);
        Edges.last(x, 1, 26);
        int engines = Edges.plain(x, 1, 4);
        x.offer(2, 4, engines);
        int[] names = {20, 22, 23, 25};
        for (int name : names) {
            Edges.plain(x, 2, name);
        }
        CHECK.due("2", x.find(2, 20), NOT_DEFINED);
        CHECK.due("5", x.find(2, 22), CIRCLE);
        CHECK.due("6", x.find(2, 23), FACE_OR_NOT);
        CHECK.due("7", x.find(2, 25), LAST);
        CHECK.due("4", x.find(2, 4), ENGINES);
        CHECK.due("none is made at 2", x.told(2, 4), 0);
        ContractLoaders y = chain();
        Edges.tower(y, 1, 14);
        Edges.plain(y, 2, 18);
        CHECK.due("17", y.find(2, 18), TOO_TALL);
    }

    /** "(3) FAILURE 1, if L OFFERS none for it": at the engine, and below it. */
    static void promise7OffersNone() {
        EDGES.refused("find(0, 6)", EdgesOfLoadersTest::three, x -> x.find(0, 6), NOT_FOUND);
        EDGES.refused("find(2, 6)", EdgesOfLoadersTest::three, x -> x.find(2, 6), NOT_FOUND);
        EDGES.refused("find(2, 0)", EdgesOfLoadersTest::three, x -> x.find(2, 0), NOT_FOUND);
        EDGES.refused("find(2, 4)", EdgesOfLoadersTest::three, x -> x.find(2, 4), NOT_FOUND);
        EDGES.refused("find(2, 29)", EdgesOfLoadersTest::three, x -> x.find(2, 29), NOT_FOUND);
    }

    /** "0 .. 4 are THE ENGINE's": "FAILURE 4, if L is not 0 and the NAME is THE ENGINE's". */
    static void promise7EnginesNames() {
        ContractLoaders x = Edges.loaders(0, 0);
        for (int name = 0; name <= 5; name++) {
            int f = Edges.plain(x, 1, name);
            CHECK.due("find(1, " + name + ")", x.find(1, name), name < 5 ? ENGINES : 105);
            x.offer(0, name, f);
            CHECK.due("find(0, " + name + ")", x.find(0, name), name);
            CHECK.due("found at the engine", x.find(1, name), name < 5 ? name : 105);
            CHECK.due("found at the engine by another", x.find(2, name), name);
        }
    }

    /** "2, if the FILE's INNER NAME is another one": one less, one more, far off. */
    static void promise7InnerNameIsAnother() {
        int[] inners = {9, 11, 0, 29};
        for (int inner : inners) {
            ContractLoaders x = chain();
            x.offer(1, 10, x.file(inner, -1, false, false, 1));
            CHECK.due("inner name " + inner, x.find(2, 10), NOT_DEFINED);
            CHECK.due("none is made", x.count(4), 0);
        }
    }

    /** "5, if it is being MADE already": of itself, in a ring of two, in a ring through a FACE. */
    static void promise7BeingMadeAlready() {
        ContractLoaders x = chain();
        Edges.over(x, 1, 5, 5);
        Edges.over(x, 1, 6, 7);
        Edges.over(x, 1, 7, 6);
        Edges.face(x, 1, 8, 9);
        Edges.face(x, 1, 9, 8);
        Edges.plain(x, 1, 10, 10);
        for (int name = 5; name <= 10; name++) {
            CHECK.due("ring of " + name, x.find(2, name), CIRCLE);
        }
        CHECK.due("none is made", x.count(4), 0);
    }

    /** "FAILURE 4 ..; 2 ..; 5": in this order. */
    static void promise7OrderOfMaking() {
        ContractLoaders x = chain();
        x.offer(1, 4, x.file(9, 4, false, false, 1));
        CHECK.due("4 ahead of 2", x.find(1, 4), ENGINES);
        Edges.over(x, 1, 3, 3);
        CHECK.due("4 ahead of 5", x.find(1, 3), ENGINES);
        x.offer(1, 10, x.file(11, 10, false, false, 1));
        CHECK.due("2 ahead of 5", x.find(1, 10), NOT_DEFINED);
    }

    /** "its SUPER is FOUND at L": at the LOADER whose CLASS it is, not at the one that asks. */
    static void promise7PartsAreFoundAtItsLoader() {
        ContractLoaders x = chain();
        Edges.over(x, 1, 5, 6);
        Edges.plain(x, 2, 6);
        Edges.plain(x, 1, 7, 8);
        Edges.face(x, 2, 8);
        CHECK.due("its super is below alone", x.find(2, 5), NOT_DEFINED);
        CHECK.due("its face is below alone", x.find(2, 7), NOT_DEFINED);
    }

    /** "a FAILURE 1 of it, as it comes there, is 2; each other one stays": 4, 5, 6, 7, 17 of a SUPER's own making. */
    static void promise7FailuresOfTheSuper() {
        ContractLoaders x = chain();
        Edges.over(x, 1, 15, 16);
        CHECK.due("1 is 2", x.find(1, 15), NOT_DEFINED);
        Edges.over(x, 1, 17, 15);
        CHECK.due("2 stays", x.find(1, 17), NOT_DEFINED);
        Edges.over(x, 1, 18, 4);
        Edges.plain(x, 1, 4);
        CHECK.due("4 stays", x.find(1, 18), ENGINES);
        Edges.over(x, 1, 19, 20);
        Edges.over(x, 1, 20, 20);
        CHECK.due("5 stays", x.find(1, 19), CIRCLE);
        Edges.over(x, 1, 21, 22);
        Edges.over(x, 1, 22, 23);
        Edges.face(x, 1, 23);
        CHECK.due("6 stays", x.find(1, 21), FACE_OR_NOT);
        Edges.over(x, 1, 24, 25);
        Edges.over(x, 1, 25, 26);
        Edges.last(x, 1, 26);
        CHECK.due("7 stays", x.find(1, 24), LAST);
        ContractLoaders y = chain();
        Edges.tower(y, 0, 15);
        CHECK.due("17 stays", y.find(2, 19), TOO_TALL);
    }

    /** "its FACES in order likewise": a FAILURE 1 is 2, each other one stays. */
    static void promise7FailuresOfAFace() {
        ContractLoaders x = chain();
        Edges.plain(x, 1, 15, 16);
        CHECK.due("1 is 2", x.find(1, 15), NOT_DEFINED);
        Edges.plain(x, 1, 18, 4);
        Edges.plain(x, 1, 4);
        CHECK.due("4 stays", x.find(1, 18), ENGINES);
        Edges.plain(x, 1, 19, 20);
        Edges.over(x, 1, 20, 20);
        CHECK.due("5 stays", x.find(1, 19), CIRCLE);
        Edges.plain(x, 1, 24, 25);
        Edges.over(x, 1, 25, 26);
        Edges.last(x, 1, 26);
        CHECK.due("7 stays", x.find(1, 24), LAST);
        ContractLoaders y = chain();
        Edges.tower(y, 0, 14);
        Edges.plain(y, 0, 28, 18);
        CHECK.due("17 stays", y.find(2, 28), TOO_TALL);
    }

    /** "6 if that is a FACE, 7 if it is LAST": of a SUPER, 6 ahead of 7. */
    static void promise7SuperThatCannotBeOne() {
        ContractLoaders x = chain();
        Edges.over(x, 1, 5, 6);
        Edges.face(x, 1, 6);
        Edges.over(x, 1, 7, 8);
        Edges.last(x, 1, 8);
        Edges.over(x, 1, 9, 10);
        Edges.offered(x, 1, 10, x.file(10, -1, true, true, 1));
        CHECK.due("a face", x.find(1, 5), FACE_OR_NOT);
        CHECK.due("a last one", x.find(1, 7), LAST);
        CHECK.due("both", x.find(1, 9), FACE_OR_NOT);
        CHECK.due("the supers are there", x.told(1, 4), 3);
    }

    /** "17 if 12 CLASSES are above it (its SUPER, and so on)": above the SUPER; 11 are not too many. */
    static void promise7TwelveAbove() {
        ContractLoaders x = chain();
        Edges.tower(x, 0, 15);
        CHECK.due("over one with 10 above", x.find(1, 16), 16);
        CHECK.due("over one with 11 above", x.find(1, 17), 17);
        CHECK.due("over one with 12 above", x.find(1, 18), TOO_TALL);
        CHECK.due("over that", x.find(1, 19), TOO_TALL);
        CHECK.due("there", x.count(3), 13);
        ContractLoaders y = chain();
        Edges.tower(y, 0, 15);
        CHECK.due("all at once", y.find(1, 18), TOO_TALL);
        CHECK.due("those that could be made are there", y.count(3), 13);
    }

    /** "17 if 12 CLASSES are above it (its SUPER, and so on)": its FACES are not above it. */
    static void promise7FacesAreNotAbove() {
        ContractLoaders x = chain();
        Edges.face(x, 0, 27);
        Edges.face(x, 0, 28, 27);
        for (int n = 0; n < 13; n++) {
            Edges.over(x, 0, 5 + n, n == 0 ? -1 : 4 + n, 28, 27);
        }
        CHECK.due("12 above and as many faces", x.find(1, 17), 17);
    }

    /** "6 ..; 7 ..; or 17": in this order. */
    static void promise7OrderOfTheSuper() {
        ContractLoaders x = chain();
        Edges.tower(x, 0, 12);
        Edges.offered(x, 0, 17, x.file(17, 16, false, true, 1));
        Edges.offered(x, 0, 18, x.file(18, 16, true, false, 1));
        Edges.over(x, 0, 19, 17);
        Edges.over(x, 0, 20, 18);
        CHECK.due("7 ahead of 17", x.find(0, 19), LAST);
        CHECK.due("6 ahead of 17", x.find(0, 20), FACE_OR_NOT);
        CHECK.due("both have 12 above", x.count(3), 14);
    }

    /** "its FACES in order likewise: 6 if it is none": LAST, or many above it, are nothing to a FACE. */
    static void promise7FaceThatCanBeOne() {
        ContractLoaders x = chain();
        Edges.tower(x, 0, 12);
        Edges.offered(x, 0, 17, x.file(17, 16, true, true, 1));
        Edges.plain(x, 0, 18, 17);
        Edges.plain(x, 0, 19, 16);
        CHECK.due("a last face with 12 above", x.find(0, 18), 18);
        CHECK.due("below what is above its face", x.below(0, 18, 0, 5), 1);
        CHECK.due("no face", x.find(0, 19), FACE_OR_NOT);
    }

    /** "its FACES in order": the first one's FAILURE is the CLASS's, and the second is not FOUND; the SUPER is ahead. */
    static void promise7PartsInOrder() {
        ContractLoaders x = chain();
        Edges.plain(x, 0, 5);
        Edges.face(x, 0, 6);
        Edges.plain(x, 0, 7, 20, 6);
        CHECK.due("the first face fails", x.find(0, 7), NOT_DEFINED);
        CHECK.due("the second is not made", x.count(4), 0);
        Edges.over(x, 0, 8, 20, 6);
        CHECK.due("the super fails", x.find(0, 8), NOT_DEFINED);
        CHECK.due("its face is not made", x.count(4), 0);
        Edges.plain(x, 0, 9, 6, 5);
        CHECK.due("the second is no face", x.find(0, 9), FACE_OR_NOT);
        CHECK.due("both are made", x.count(4), 2);
        Edges.plain(x, 0, 10, 5, 20);
        CHECK.due("6 of the first, ahead of 2 of the second", x.find(0, 10), FACE_OR_NOT);
        Edges.last(x, 0, 11);
        Edges.over(x, 0, 12, 11, 20);
        CHECK.due("7 of the super, ahead of 2 of the face", x.find(0, 12), LAST);
    }

    /** "Then the CLASS is there (one more MADE)": once, however often it is FOUND. */
    static void promise7MadeOnce() {
        ContractLoaders x = three();
        for (int n = 0; n < 3; n++) {
            CHECK.due("find(2, 5)", x.find(2, 5), 5);
            CHECK.due("find(0, 5)", x.find(0, 5), 5);
        }
        CHECK.due("made", x.count(4), 1);
        CHECK.due("there", x.count(3), 1);
    }

    /** "What answers so changes nothing (but what was MADE ..)": the parts that were MADE stay. */
    static void promise7PartsStayMadeBehindAFailure() {
        ContractLoaders x = chain();
        Edges.over(x, 1, 5, 6, 7, 20);
        Edges.plain(x, 0, 6);
        Edges.face(x, 1, 7);
        CHECK.due("its second face is none", x.find(2, 5), NOT_DEFINED);
        CHECK.due("made", x.count(4), 2);
        CHECK.due("there at 0", x.told(0, 4), 1);
        CHECK.due("there at 1", x.told(1, 4), 1);
    }

    /** "Behind a FAILURE it is not, nor is it being MADE": the same FAILURE again, and none when its reason is gone. */
    static void promise7NotBeingMadeBehindAFailure() {
        ContractLoaders x = chain();
        Edges.over(x, 1, 5, 6);
        CHECK.due("2", x.find(1, 5), NOT_DEFINED);
        CHECK.due("2 again, not 5", x.find(1, 5), NOT_DEFINED);
        Edges.over(x, 1, 6, 5);
        CHECK.due("5", x.find(1, 5), CIRCLE);
        CHECK.due("5 of the other", x.find(1, 6), CIRCLE);
        CHECK.due("none there", x.count(3), 0);
        Edges.plain(x, 0, 6);
        CHECK.due("its super is found at 0 now", x.find(1, 5), 105);
        CHECK.due("below that", x.below(1, 5, 0, 6), 1);
        CHECK.due("made", x.count(4), 2);
    }

    // Promise 8: define

    /** "BAD": there is no such LOADER, no NAME. */
    static void promise8NumbersAreNone() {
        for (int l : NO_LOADERS) {
            EDGES.refused("define(" + l + ", 5)", EdgesOfLoadersTest::three, x -> x.define(l, 5), BAD);
        }
        for (int name : Edges.NO_NAMES) {
            EDGES.refused("define(2, " + name + ")", EdgesOfLoadersTest::three, x -> x.define(2, name), BAD);
        }
    }

    /** "A CLASS is MADE at a LOADER, without asking its PARENT": though that has one, or would fail. */
    static void promise8WithoutAskingTheParent() {
        ContractLoaders x = three();
        CHECK.due("find(2, 5)", x.find(2, 5), 5);
        CHECK.due("define(2, 5)", x.define(2, 5), 205);
        CHECK.due("define(1, 5)", x.define(1, 5), 105);
        CHECK.due("each there", x.count(3), 3);
        x.offer(0, 6, x.file(7, -1, false, false, 1));
        Edges.plain(x, 1, 6);
        CHECK.due("find fails at the parent", x.find(1, 6), NOT_DEFINED);
        CHECK.due("define(1, 6)", x.define(1, 6), 106);
    }

    /** "3, if it is there": of that LOADER, again and again; not once it is let go. */
    static void promise8ThereAlready() {
        ContractLoaders x = three();
        CHECK.due("define(1, 5)", x.define(1, 5), 105);
        EDGES.refused("again", () -> {
            ContractLoaders y = three();
            y.define(1, 5);
            return y;
        }, y -> y.define(1, 5), THERE);
        CHECK.due("again", x.define(1, 5), THERE);
        CHECK.due("made", x.count(4), 1);
        x.find(0, 5);
        CHECK.due("found, not defined", x.define(0, 5), THERE);
        x.release(1);
        CHECK.due("let go", x.define(1, 5), 105);
        CHECK.due("made anew", x.count(4), 3);
    }

    /** "1 as (3)": that LOADER OFFERS none, though its PARENT does, or has it there. */
    static void promise8OffersNone() {
        ContractLoaders x = chain();
        Edges.plain(x, 1, 5);
        CHECK.due("offered by the parent", x.define(2, 5), NOT_FOUND);
        CHECK.due("nothing made of it", x.count(4), 0);
        x.find(1, 5);
        CHECK.due("there at the parent", x.define(2, 5), NOT_FOUND);
        CHECK.due("at the engine", x.define(0, 5), NOT_FOUND);
        EDGES.refused("define(2, 6)", EdgesOfLoadersTest::three, y -> y.define(2, 6), NOT_FOUND);
    }

    /** "then as (4)": 4, 2, 5, and the FAILURES of its parts. */
    static void promise8ThenAsMade() {
        ContractLoaders x = chain();
        Edges.plain(x, 1, 4);
        Edges.plain(x, 0, 4);
        CHECK.due("4", x.define(1, 4), ENGINES);
        CHECK.due("no 4 of the engine", x.define(0, 4), 4);
        x.offer(1, 10, x.file(11, -1, false, false, 1));
        CHECK.due("2", x.define(1, 10), NOT_DEFINED);
        Edges.over(x, 1, 12, 12);
        CHECK.due("5", x.define(1, 12), CIRCLE);
        CHECK.due("5 again", x.define(1, 12), CIRCLE);
        Edges.over(x, 1, 13, 14);
        CHECK.due("1 of its super is 2", x.define(1, 13), NOT_DEFINED);
        Edges.face(x, 1, 14);
        CHECK.due("6", x.define(1, 13), FACE_OR_NOT);
        Edges.over(x, 1, 15, 16);
        Edges.last(x, 1, 16);
        CHECK.due("7", x.define(1, 15), LAST);
        Edges.plain(x, 1, 17, 16);
        CHECK.due("6 of a face", x.define(1, 17), FACE_OR_NOT);
        CHECK.due("there: 4 at 0, 14, 16", x.count(3), 3);
        ContractLoaders y = chain();
        Edges.tower(y, 0, 14);
        CHECK.due("17", y.define(0, 18), TOO_TALL);
        CHECK.due("over one with 11 above", y.define(0, 17), THERE);
    }

    /** "without asking its PARENT": its parts are FOUND, at PARENTS first, and one of its own NAME too. */
    static void promise8PartsAreFound() {
        ContractLoaders x = chain();
        Edges.over(x, 1, 5, 5);
        Edges.plain(x, 0, 5);
        CHECK.due("define(1, 5)", x.define(1, 5), 105);
        CHECK.due("below the engine's", x.below(1, 5, 0, 5), 1);
        CHECK.due("that is not below it", x.below(0, 5, 1, 5), 0);
    }

    // Promise 9: release

    /** "BAD": there is no such LOADER. */
    static void promise9LoaderIsNone() {
        for (int l : NO_LOADERS) {
            EDGES.refused("release(" + l + ")", () -> {
                ContractLoaders x = three();
                x.define(2, 5);
                x.define(0, 5);
                return x;
            }, x -> x.release(l), BAD);
        }
    }

    /** "how many CLASSES went": none of a LOADER that has none, of a new object, or a second time. */
    static void promise9NoneWent() {
        EDGES.refused("release(0) of a new object", ContractLoaders::new, x -> x.release(0), 0);
        ContractLoaders x = three();
        x.define(0, 5);
        CHECK.due("none at 1 and 2", x.release(1), 0);
        CHECK.due("still there", x.count(3), 1);
        CHECK.due("release(0)", x.release(0), 1);
        CHECK.due("release(0) again", x.release(0), 0);
    }

    /** "A LOADER is BELOW itself, its PARENT, and so on": "all CLASSES of LOADERS BELOW it are gone", no others. */
    static void promise9AllBelowItAndNoOthers() {
        String[] stay = {"", "0567", "014567", "0124567", "0123567", "01234", "0123457", "0123456"};
        for (int let = 0; let < 8; let++) {
            // 1 and 5 under the engine; 2 and 4 under 1; 3 under 2; 6 and 7 under 5
            ContractLoaders x = Edges.loaders(0, 1, 2, 1, 0, 5, 5);
            int f = x.file(5, -1, false, false, 1);
            for (int l = 0; l < 8; l++) {
                x.offer(l, 5, f);
                x.define(l, 5);
            }
            CHECK.due("release(" + let + ")", x.release(let), 8 - stay[let].length());
            CHECK.due("still there", x.count(3), stay[let].length());
            for (int l = 0; l < 8; l++) {
                CHECK.due("classes of " + l + " behind " + let, x.told(l, 4), stay[let].indexOf('0' + l) < 0 ? 0 : 1);
            }
        }
    }

    /** "all CLASSES .. are gone": of the NAMES 0 and 29 too. */
    static void promise9NamesAtTheEnds() {
        ContractLoaders x = chain();
        Edges.plain(x, 0, 0);
        Edges.plain(x, 0, 29);
        x.find(0, 0);
        x.find(0, 29);
        CHECK.due("release(0)", x.release(0), 2);
        CHECK.due("define(0, 0)", x.define(0, 0), 0);
        CHECK.due("define(0, 29)", x.define(0, 29), 29);
        CHECK.due("made", x.count(4), 4);
    }

    /** "(They are MADE anew when they are FOUND.)": now at a PARENT, if that OFFERS it meanwhile. */
    static void promise9MadeAnew() {
        ContractLoaders x = chain();
        Edges.plain(x, 2, 5);
        x.find(2, 5);
        x.release(2);
        CHECK.due("there", x.count(3), 0);
        CHECK.due("made anew", x.find(2, 5), 205);
        CHECK.due("made", x.count(4), 2);
        Edges.plain(x, 1, 5);
        x.release(2);
        CHECK.due("the parent's now", x.find(2, 5), 105);
    }

    /** "FAILURE 15, if a CLASS .. is HELD": none is between calls, whether the latest answered 1 or a FAILURE. */
    static void promise9NothingIsHeldFromOutside() {
        ContractLoaders x = Edges.one(Edges.INTS, Edges.PLUS, 0, 1);
        x.call(0, 0, 1);
        CHECK.due("behind a call", x.release(0), 1);
        ContractLoaders y = Edges.one(Edges.INTS, Edges.FAIL, 0, 1);
        y.call(0, 0, 1);
        CHECK.due("behind one that failed", y.release(0), 1);
        y.call(0, 1, 1);
        CHECK.due("behind one without a method", y.release(0), 1);
    }

    // Promise 10: below

    /** "BAD": each of the four numbers, also where the first NAME is not FOUND. */
    static void promise10NumbersAreNone() {
        for (int l : NO_LOADERS) {
            EDGES.refused("loader " + l, EdgesOfLoadersTest::three, x -> x.below(l, 5, 1, 5), BAD);
            EDGES.refused("at " + l, EdgesOfLoadersTest::three, x -> x.below(1, 5, l, 5), BAD);
            EDGES.refused("at " + l + " behind a failure", EdgesOfLoadersTest::three, x -> x.below(1, 6, l, 5), BAD);
        }
        for (int name : Edges.NO_NAMES) {
            EDGES.refused("name " + name, EdgesOfLoadersTest::three, x -> x.below(1, name, 1, 5), BAD);
            EDGES.refused("other " + name, EdgesOfLoadersTest::three, x -> x.below(1, 5, 1, name), BAD);
            EDGES.refused("other " + name + " behind a failure", EdgesOfLoadersTest::three,
                    x -> x.below(1, 6, 1, name), BAD);
        }
    }

    /** "A CLASS is BELOW itself": at the ends of LOADERS and NAMES. */
    static void promise10Itself() {
        ContractLoaders x = Edges.loaders(0, 1, 2, 3, 4, 5, 6);
        Edges.plain(x, 0, 0);
        Edges.plain(x, 7, 29);
        Edges.plain(x, 3, 5);
        CHECK.due("0", x.below(0, 0, 0, 0), 1);
        CHECK.due("0 by another loader", x.below(0, 0, 7, 0), 1);
        CHECK.due("729", x.below(7, 29, 7, 29), 1);
        CHECK.due("0 and 729", x.below(0, 0, 7, 29), 0);
        CHECK.due("729 and 0", x.below(7, 29, 0, 0), 0);
        CHECK.due("305", x.below(7, 5, 3, 5), 1);
    }

    /** "apart from their like at other loaders": no CLASS is BELOW another one, of all that there can be of two FILES. */
    static void promise10ApartFromTheirLike() {
        ContractLoaders x = Edges.loaders(0, 1, 2, 3, 4, 5, 6);
        int[] names = {5, 6};
        for (int name : names) {
            int f = x.file(name, -1, false, false, 1);
            for (int l = 0; l < 8; l++) {
                x.offer(l, name, f);
                x.define(l, name);
            }
        }
        for (int l = 0; l < 8; l++) {
            for (int k = 0; k < 8; k++) {
                CHECK.due("5 of " + l + " below 5 of " + k, x.below(l, 5, k, 5), l == k ? 1 : 0);
                CHECK.due("6 of " + l + " below 5 of " + k, x.below(l, 6, k, 5), 0);
            }
        }
    }

    /** "apart": of 24 NAMES at one LOADER none is BELOW another. */
    static void promise10ApartFromOtherNames() {
        for (int l = 0; l < 8; l++) {
            ContractLoaders x = Edges.loaders(0, 1, 2, 3, 4, 5, 6);
            ContractLoaders y = Edges.loaders(0, 1, 2, 3, 4, 5, 6);
            for (int name = 6; name < 30; name++) {
                Edges.plain(x, l, name);
                Edges.plain(y, l, name);
                for (int other = 6; other <= name; other++) {
                    CHECK.due(name + " below " + other + " at " + l, x.below(l, name, l, other), name == other ? 1 : 0);
                    CHECK.due(other + " below " + name + " at " + l, y.below(l, other, l, name), name == other ? 1 : 0);
                }
            }
        }
    }

    /** "and what its SUPER, its FACES are BELOW": over twelve SUPERS, through a FACE's SUPER and its FACES. */
    static void promise10AllThatIsAbove() {
        ContractLoaders x = Edges.loaders(0, 1, 2, 3, 4, 5, 6);
        Edges.tower(x, 7, 13);
        for (int name = 5; name < 18; name++) {
            CHECK.due("17 below " + name, x.below(7, 17, 7, name), 1);
            CHECK.due(name + " below 17", x.below(7, name, 7, 17), name == 17 ? 1 : 0);
        }
        ContractLoaders y = chain();
        Edges.plain(y, 2, 5, 6, 7);
        Edges.face(y, 2, 6, 8, 9);
        Edges.offered(y, 1, 7, y.file(7, 10, true, false, 1));
        Edges.face(y, 1, 8);
        Edges.face(y, 0, 9);
        Edges.plain(y, 0, 10, 11);
        Edges.face(y, 0, 11);
        for (int name = 5; name < 12; name++) {
            CHECK.due("5 below " + name, y.below(2, 5, 2, name), 1);
            CHECK.due(name + " below 5", y.below(2, name, 2, 5), name == 5 ? 1 : 0);
        }
        CHECK.due("6 not below 7", y.below(2, 6, 2, 7), 0);
        CHECK.due("8 not below 9", y.below(2, 8, 2, 9), 0);
    }

    /** "FAILURES (the first one ahead)": of each of the two NAMES; the second is not FOUND where the first is not. */
    static void promise10FirstFailureAhead() {
        ContractLoaders x = three();
        x.offer(0, 10, x.file(11, -1, false, false, 1));
        CHECK.due("the first alone", x.below(1, 10, 1, 5), NOT_DEFINED);
        CHECK.due("the second was not found", x.count(4), 0);
        CHECK.due("both", x.below(1, 10, 1, 6), NOT_DEFINED);
        CHECK.due("both, the other way", x.below(1, 6, 1, 10), NOT_FOUND);
        CHECK.due("the second alone", x.below(1, 5, 1, 10), NOT_DEFINED);
        CHECK.due("the first was made", x.count(4), 1);
        CHECK.due("the second alone, 1", x.below(1, 5, 1, 6), NOT_FOUND);
    }

    /** "and nothing else is another thing by that": what is MADE anew is BELOW the same, what is new is above none. */
    static void promise10MadeAnew() {
        ContractLoaders x = chain();
        Edges.over(x, 2, 5, 6, 7);
        Edges.plain(x, 1, 6);
        Edges.face(x, 1, 7);
        CHECK.due("before", x.below(2, 5, 1, 6), 1);
        x.release(0);
        CHECK.due("below its super anew", x.below(2, 5, 1, 6), 1);
        CHECK.due("below its face anew", x.below(2, 5, 1, 7), 1);
        CHECK.due("made", x.count(4), 6);
        Edges.plain(x, 0, 6);
        CHECK.due("the engine's is another", x.below(2, 5, 0, 6), 0);
        x.release(0);
        CHECK.due("but its super once all are made anew", x.below(2, 5, 0, 6), 1);
        CHECK.due("then found at the engine", x.find(1, 6), 6);
        CHECK.due("its super of before", x.define(1, 6), 106);
        CHECK.due("is above it no more", x.below(2, 5, 1, 6), 0);
    }
}

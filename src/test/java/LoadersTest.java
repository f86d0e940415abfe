/** Promises 7 to 10: find, define, release, below. */
final class LoadersTest {
    private static final Check CHECK = new Check("LoadersTest");

    public static void main(String[] args) {
        parentsFirst();
        eachFailureOfMaking();
        order();
        failuresOfParts();
        faces();
        tallest();
        define();
        release();
        below();
        longestChain();
        wrongNumbers();
        CHECK.end();
    }

    /** A FILE of an inner NAME, OFFERED for it. */
    private static int offered(ContractLoaders x, int loader, int name, int superName, boolean face, boolean last) {
        int f = x.file(name, superName, face, last, 0);
        x.offer(loader, name, f);
        return f;
    }

    private static void parentsFirst() {
        ContractLoaders x = new ContractLoaders();
        x.loader(0);
        x.loader(1);
        offered(x, 2, 5, -1, false, false);
        CHECK.due("offered below only", x.find(2, 5), 205);
        offered(x, 1, 5, -1, false, false);
        CHECK.due("there at 2, ahead of the parent's", x.find(2, 5), 205);
        CHECK.due("apart at 1", x.find(1, 5), 105);
        CHECK.due("at 0 none", x.find(0, 5), -21);
        CHECK.due("release(2)", x.release(2), 1);
        CHECK.due("the parent's now", x.find(2, 5), 105);
        offered(x, 0, 5, -1, false, false);
        CHECK.due("there at 1, ahead of 0", x.find(2, 5), 105);
        CHECK.due("release(1)", x.release(1), 1);
        CHECK.due("0's now", x.find(2, 5), 5);
        CHECK.due("made in all", x.count(4), 3);
        CHECK.due("there", x.count(3), 1);
        CHECK.due("found again", x.find(1, 5), 5);
        CHECK.due("made once", x.count(4), 3);
    }

    private static void eachFailureOfMaking() {
        ContractLoaders x = new ContractLoaders();
        x.loader(0);
        offered(x, 1, 4, -1, false, false);
        offered(x, 0, 3, -1, false, false);
        x.offer(1, 9, x.file(8, -1, false, false, 0));
        offered(x, 1, 10, 11, false, false);
        offered(x, 1, 11, 10, false, false);
        offered(x, 1, 12, 13, false, false);
        offered(x, 1, 14, 15, false, false);
        offered(x, 1, 15, -1, false, true);
        offered(x, 1, 16, 17, false, false);
        offered(x, 1, 17, -1, true, false);
        offered(x, 1, 18, 18, false, false);
        CHECK.due("1", x.find(1, 20), -21);
        CHECK.due("4 at 1", x.find(1, 4), -24);
        CHECK.due("an engine's name at 0", x.find(1, 3), 3);
        CHECK.due("2, the inner name", x.find(1, 9), -22);
        CHECK.due("5, a ring of two", x.find(1, 10), -25);
        CHECK.due("5, the other of it", x.find(1, 11), -25);
        CHECK.due("5, of itself", x.find(1, 18), -25);
        CHECK.due("2, no super", x.find(1, 12), -22);
        CHECK.due("7", x.find(1, 14), -27);
        CHECK.due("the last one is there", x.told(1, 4), 1);
        CHECK.due("6", x.find(1, 16), -26);
        CHECK.due("the face is there", x.told(1, 4), 2);
        CHECK.due("7 again", x.find(1, 14), -27);
        offered(x, 0, 13, -1, false, false);
        CHECK.due("its super is offered now", x.find(1, 12), 112);
        CHECK.due("told 0", x.told(0, 4), 2);
        CHECK.due("made", x.count(4), 5);
    }

    /** Of one FILE that many FAILURES fit: 4, then 2, then 5. */
    private static void order() {
        ContractLoaders x = new ContractLoaders();
        x.loader(0);
        x.offer(1, 4, x.file(9, 9, false, false, 0));
        CHECK.due("4 ahead of 2", x.find(1, 4), -24);
        x.offer(0, 4, x.file(9, 9, false, false, 0));
        CHECK.due("the parent's 2 ends it", x.find(1, 4), -22);
        CHECK.due("define goes on to 4", x.define(1, 4), -24);
        x.offer(1, 6, x.file(6, 7, false, false, 0));
        x.offer(1, 7, x.file(8, 6, false, false, 0));
        CHECK.due("2 of the super, ahead of its ring", x.find(1, 6), -22);
        offered(x, 1, 10, 11, false, false);
        offered(x, 1, 11, -1, true, true);
        CHECK.due("6 ahead of 7", x.find(1, 10), -26);
    }

    /** A FAILURE 1 of a SUPER or a FACE is 2, each other one stays, however deep. */
    private static void failuresOfParts() {
        ContractLoaders x = new ContractLoaders();
        x.loader(0);
        offered(x, 1, 5, 6, false, false);
        offered(x, 1, 6, 4, false, false);
        offered(x, 1, 4, -1, false, false);
        CHECK.due("4 stays", x.find(1, 5), -24);
        offered(x, 0, 7, 8, false, false);
        offered(x, 1, 7, -1, false, false);
        offered(x, 1, 8, -1, false, false);
        CHECK.due("2 at the parent ends it, though 1 offers both", x.find(1, 7), -22);
        int f = x.file(9, -1, false, false, 0);
        x.under(f, 10);
        x.offer(1, 9, f);
        CHECK.due("2, no face", x.find(1, 9), -22);
        int g = x.file(11, -1, false, false, 0);
        x.under(g, 4);
        x.offer(1, 11, g);
        CHECK.due("4 of a face stays", x.find(1, 11), -24);
        CHECK.due("none is there", x.count(4), 0);
    }

    private static void faces() {
        ContractLoaders x = new ContractLoaders();
        int f = x.file(5, 9, false, false, 0);
        x.under(f, 6);
        x.under(f, 7);
        x.offer(0, 5, f);
        offered(x, 0, 9, -1, false, false);
        int g = x.file(6, -1, true, true, 0);
        x.under(g, 5);
        x.offer(0, 6, g);
        offered(x, 0, 7, -1, false, false);
        CHECK.due("5, through a face", x.find(0, 5), -25);
        CHECK.due("the super was made", x.count(4), 1);
        ContractLoaders y = new ContractLoaders();
        f = y.file(5, -1, false, false, 0);
        y.under(f, 6);
        y.under(f, 7);
        y.offer(0, 5, f);
        offered(y, 0, 6, -1, true, true);
        offered(y, 0, 7, -1, false, false);
        CHECK.due("6, the second is none", y.find(0, 5), -26);
        CHECK.due("both were made, it is not there", y.count(3), 2);
        CHECK.due("a last face may be a face", y.below(0, 6, 0, 6), 1);
    }

    /** 12 CLASSES above the SUPER that was FOUND are too many; FACES are not above. */
    private static void tallest() {
        ContractLoaders x = new ContractLoaders();
        for (int n = 0; n < 15; n++) {
            int f = x.file(10 + n, n == 0 ? -1 : 9 + n, false, false, 0);
            if (n == 12) x.under(f, 5);
            x.offer(0, 10 + n, f);
        }
        offered(x, 0, 5, -1, true, false);
        CHECK.due("12 above", x.find(0, 22), 22);
        CHECK.due("13 above", x.find(0, 23), -37);
        CHECK.due("14 above", x.find(0, 24), -37);
        CHECK.due("there", x.count(3), 14);
        CHECK.due("release", x.release(0), 14);
        CHECK.due("13 above, all made anew", x.find(0, 23), -37);
        CHECK.due("there anew", x.count(3), 14);
    }

    private static void define() {
        ContractLoaders x = new ContractLoaders();
        x.loader(0);
        x.loader(1);
        offered(x, 1, 5, -1, false, false);
        offered(x, 2, 5, -1, false, false);
        CHECK.due("find", x.find(2, 5), 105);
        CHECK.due("define beside the parent's", x.define(2, 5), 205);
        CHECK.due("define again", x.define(2, 5), -23);
        CHECK.due("find now", x.find(2, 5), 205);
        CHECK.due("find at the parent", x.find(1, 5), 105);
        CHECK.due("apart", x.below(2, 5, 1, 5), 0);
        CHECK.due("define at 0", x.define(0, 5), -21);
        CHECK.due("told(2, 4)", x.told(2, 4), 1);
        CHECK.due("release", x.release(2), 1);
        CHECK.due("the parent's again", x.find(2, 5), 105);
        offered(x, 2, 6, 6, false, false);
        offered(x, 1, 6, -1, false, false);
        CHECK.due("under the parent's of its name", x.define(2, 6), 206);
        CHECK.due("that is above", x.below(2, 6, 1, 6), 1);
        offered(x, 2, 7, 7, false, false);
        CHECK.due("a ring of one", x.define(2, 7), -25);
        x.offer(2, 8, x.file(9, -1, false, false, 0));
        CHECK.due("2", x.define(2, 8), -22);
        offered(x, 2, 4, -1, false, false);
        CHECK.due("4", x.define(2, 4), -24);
        offered(x, 0, 4, -1, false, false);
        CHECK.due("an engine's at 0", x.define(0, 4), 4);
    }

    private static void release() {
        ContractLoaders x = new ContractLoaders();
        x.loader(0);
        x.loader(1);
        x.loader(0);
        for (int l = 0; l < 4; l++) {
            offered(x, l, 5 + l, -1, false, false);
            x.find(l, 5 + l);
        }
        CHECK.due("release(3)", x.release(3), 1);
        CHECK.due("release(3) again", x.release(3), 0);
        CHECK.due("release(1) with 2", x.release(1), 2);
        CHECK.due("0 stays", x.told(0, 4), 1);
        x.find(2, 7);
        x.find(3, 8);
        CHECK.due("release(0), all", x.release(0), 3);
        CHECK.due("there", x.count(3), 0);
        CHECK.due("made", x.count(4), 6);
        CHECK.due("made anew", x.find(2, 7), 207);
        CHECK.due("release(-1)", x.release(-1), -1);
        CHECK.due("release(4)", x.release(4), -1);
    }

    private static void below() {
        ContractLoaders x = new ContractLoaders();
        x.loader(0);
        int f = x.file(5, 6, false, false, 0);
        x.under(f, 7);
        x.under(f, 8);
        x.offer(1, 5, f);
        int s = x.file(6, -1, false, false, 0);
        x.under(s, 9);
        x.offer(0, 6, s);
        offered(x, 1, 7, -1, true, false);
        int g = x.file(8, 10, true, false, 0);
        x.under(g, 11);
        x.offer(0, 8, g);
        offered(x, 0, 9, -1, true, false);
        offered(x, 0, 10, -1, false, false);
        offered(x, 0, 11, -1, true, false);
        for (int other = 5; other <= 11; other++) {
            CHECK.due("5 below " + other, x.below(1, 5, 1, other), 1);
            CHECK.due(other + " below 5", x.below(1, other, 1, 5), other == 5 ? 1 : 0);
        }
        CHECK.due("6 below 9", x.below(0, 6, 0, 9), 1);
        CHECK.due("6 not below 8", x.below(0, 6, 0, 8), 0);
        CHECK.due("the first failure", x.below(1, 20, 1, 4), -21);
        x.offer(0, 21, x.file(22, -1, false, false, 0));
        CHECK.due("the first failure ahead", x.below(1, 21, 1, 20), -22);
        CHECK.due("the second failure", x.below(1, 5, 1, 21), -22);
        int made = x.count(4);
        offered(x, 0, 23, -1, false, false);
        CHECK.due("behind the first failure", x.below(1, 21, 0, 23), -22);
        CHECK.due("nothing is found", x.count(4), made);
        CHECK.due("the first one", x.below(0, 23, 0, 20), -21);
        CHECK.due("is made all the same", x.count(4), made + 1);
    }

    /** As many CLASSES being MADE at once as there can be: define() of a NAME, then each NAME once. */
    private static void longestChain() {
        ContractLoaders x = new ContractLoaders();
        x.loader(0);
        for (int n = 0; n < 23; n++) {
            int f = x.file(5 + n, 5 + (n + 1) % 23, false, false, 0);
            x.offer(0, 5 + n, f);
            x.offer(1, 5 + n, f);
        }
        CHECK.due("a ring of all", x.define(1, 5), -25);
        CHECK.due("found at the parent", x.find(1, 9), -25);
        CHECK.due("none is made", x.count(4), 0);
        ContractLoaders y = new ContractLoaders();
        y.loader(0);
        int[] files = new int[24];
        for (int n = 0; n < 24; n++) {
            files[n] = y.file(n, -1, true, false, 0);
            if (n > 0) {
                y.under(files[n], n - 1);
                y.under(files[n], n - 1);
            }
            y.offer(n < 10 ? 0 : 1, n, files[n]);
        }
        CHECK.due("faces over faces", y.find(1, 23), 123);
        CHECK.due("each made once", y.count(4), 24);
        CHECK.due("below the last one by many ways", y.below(1, 23, 0, 0), 1);
        CHECK.due("not below it", y.below(1, 22, 1, 23), 0);
    }

    private static void wrongNumbers() {
        ContractLoaders x = new ContractLoaders();
        offered(x, 0, 5, -1, false, false);
        int[] bad = {-1, 30, Integer.MIN_VALUE, Integer.MAX_VALUE};
        for (int b : bad) {
            CHECK.due("find loader " + b, x.find(b, 5), -1);
            CHECK.due("find name " + b, x.find(0, b), -1);
            CHECK.due("define loader " + b, x.define(b, 5), -1);
            CHECK.due("define name " + b, x.define(0, b), -1);
            CHECK.due("release " + b, x.release(b), -1);
            CHECK.due("below loader " + b, x.below(b, 5, 0, 5), -1);
            CHECK.due("below name " + b, x.below(0, b, 0, 5), -1);
            CHECK.due("below at " + b, x.below(0, 5, b, 5), -1);
            CHECK.due("below other " + b, x.below(0, 5, 0, b), -1);
            CHECK.due("below other " + b + ", first one a failure", x.below(0, 6, 0, b), -1);
        }
        CHECK.due("nothing is made by them", x.count(4), 0);
    }
}

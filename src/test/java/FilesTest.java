/** Promises 1 to 6: a new object, file, under, act, loader, offer. */
final class FilesTest {
    private static final Check CHECK = new Check("FilesTest");

    public static void main(String[] args) {
        newObject();
        file();
        under();
        act();
        loader();
        offer();
        CHECK.end();
    }

    private static void newObject() {
        ContractLoaders x = new ContractLoaders();
        int[] counts = {0, 1, 0, 0, 0, 0, 0, 0};
        for (int what = 0; what < 8; what++) {
            CHECK.due("new count(" + what + ")", x.count(what), counts[what]);
        }
        CHECK.due("new told(0, 3)", x.told(0, 3), -3);
        CHECK.due("new told(0, 4)", x.told(0, 4), 0);
        CHECK.due("new told(0, 5)", x.told(0, 5), 0);
        CHECK.due("new told(1, 3)", x.told(1, 3), -1);
        CHECK.due("new value()", x.value(), 0);
        CHECK.due("new find(0, 0)", x.find(0, 0), -21);
        CHECK.due("new offer(0, 0, 0)", x.offer(0, 0, 0), -1);
        CHECK.due("new under(0, 0)", x.under(0, 0), -1);
        CHECK.dueNoPlace(x, 0, 0);
    }

    private static void file() {
        ContractLoaders x = new ContractLoaders();
        CHECK.due("file inner -1", x.file(-1, -1, false, false, 0), -1);
        CHECK.due("file inner 30", x.file(30, -1, false, false, 0), -1);
        CHECK.due("file super -2", x.file(0, -2, false, false, 0), -1);
        CHECK.due("file super 30", x.file(0, 30, false, false, 0), -1);
        CHECK.due("file lane -1", x.file(0, -1, false, false, -1), -1);
        CHECK.due("file lane 4", x.file(0, -1, false, false, 4), -1);
        for (int n = 0; n < 24; n++) {
            CHECK.due("file " + n, x.file(n, n % 2 == 0 ? -1 : 29, n % 3 == 0, n % 5 == 0, n % 4), n);
        }
        CHECK.due("file 24", x.file(29, 29, true, true, 3), -2);
        CHECK.due("file 24 that is bad too", x.file(30, 29, true, true, 3), -1);
        CHECK.due("files", x.count(0), 24);
    }

    private static void under() {
        ContractLoaders x = new ContractLoaders();
        x.file(5, -1, false, false, 0);
        x.file(6, -1, true, false, 0);
        CHECK.due("under file -1", x.under(-1, 6), -1);
        CHECK.due("under file 2", x.under(2, 6), -1);
        CHECK.due("under name -1", x.under(0, -1), -1);
        CHECK.due("under name 30", x.under(0, 30), -1);
        CHECK.due("under one", x.under(0, 6), 1);
        CHECK.due("under two, the same", x.under(0, 6), 2);
        CHECK.due("under three", x.under(0, 6), -2);
        CHECK.due("under three that is bad", x.under(0, 30), -1);
        x.offer(0, 9, 0);
        CHECK.due("under offered, ahead of full", x.under(0, 6), -3);
        CHECK.due("under offered that is bad", x.under(0, 30), -1);
        CHECK.due("under another", x.under(1, 0), 1);
    }

    private static void act() {
        ContractLoaders x = new ContractLoaders();
        x.file(5, -1, false, false, 0);
        CHECK.due("act file 1", x.act(1, 0, 0, 0, 0), -1);
        CHECK.due("act file -1", x.act(-1, 0, 0, 0, 0), -1);
        CHECK.due("act method -1", x.act(0, -1, 0, 0, 0), -1);
        CHECK.due("act method 3", x.act(0, 3, 0, 0, 0), -1);
        CHECK.due("act kind -1", x.act(0, 0, -1, 0, 0), -1);
        CHECK.due("act kind 12", x.act(0, 0, 12, 0, 0), -1);
        CHECK.due("act find -1", x.act(0, 0, 6, -1, 0), -1);
        CHECK.due("act find 30", x.act(0, 0, 6, 30, 0), -1);
        CHECK.due("act as -1", x.act(0, 0, 7, -1, 0), -1);
        CHECK.due("act as 30", x.act(0, 0, 7, 30, 0), -1);
        CHECK.due("act fail -1", x.act(0, 0, 8, -1, 0), -1);
        CHECK.due("act fail 10", x.act(0, 0, 8, 10, 0), -1);
        CHECK.due("act call b -1", x.act(0, 0, 5, 0, -1), -1);
        CHECK.due("act call b 90", x.act(0, 0, 5, 0, 90), -1);
        CHECK.due("act call b 89", x.act(0, 0, 5, 99, 89), 1);
        CHECK.due("act call b 0", x.act(0, 0, 5, -99, 0), 2);
        CHECK.due("act find 29", x.act(0, 0, 6, 29, -7), 3);
        CHECK.due("act as 0", x.act(0, 0, 7, 0, -7), 4);
        CHECK.due("act fail 9", x.act(0, 0, 8, 9, -7), 5);
        CHECK.due("act six", x.act(0, 0, 0, 0, 0), -2);
        CHECK.due("act six that is bad", x.act(0, 0, 8, 10, 0), -1);
        CHECK.due("act add, no place yet", x.act(0, 1, 0, -5, 7), 1);
        CHECK.due("act let go, no loader yet", x.act(0, 1, 10, 1000, 7), 2);
        CHECK.due("act try", x.act(0, 2, 11, 1000, -1000), 1);
        x.offer(0, 9, 0);
        CHECK.due("act offered", x.act(0, 2, 11, 0, 0), -3);
        CHECK.due("act offered, ahead of full", x.act(0, 0, 11, 0, 0), -3);
        CHECK.due("act offered that is bad", x.act(0, 2, 12, 0, 0), -1);
        CHECK.due("steps of writing acts", x.count(5), 0);
    }

    private static void loader() {
        ContractLoaders x = new ContractLoaders();
        CHECK.due("loader(-1)", x.loader(-1), -1);
        CHECK.due("loader(1) itself", x.loader(1), -1);
        for (int n = 1; n < 8; n++) {
            CHECK.due("loader " + n, x.loader(n / 2), n);
            CHECK.due("told parent " + n, x.told(n, 3), n / 2);
        }
        CHECK.due("loader 8", x.loader(0), -2);
        CHECK.due("loader 8 that is bad", x.loader(8), -1);
        CHECK.due("loaders", x.count(1), 8);
    }

    private static void offer() {
        ContractLoaders x = new ContractLoaders();
        x.file(5, -1, false, false, 0);
        x.loader(0);
        CHECK.due("offer loader 2", x.offer(2, 5, 0), -1);
        CHECK.due("offer loader -1", x.offer(-1, 5, 0), -1);
        CHECK.due("offer name 30", x.offer(1, 30, 0), -1);
        CHECK.due("offer name -1", x.offer(1, -1, 0), -1);
        CHECK.due("offer file 1", x.offer(1, 5, 1), -1);
        CHECK.due("offer file -1", x.offer(1, 5, -1), -1);
        CHECK.due("offer", x.offer(1, 5, 0), 1);
        CHECK.due("offer twice", x.offer(1, 5, 0), -3);
        CHECK.due("offer twice, a bad file", x.offer(1, 5, 1), -1);
        CHECK.due("offer at another", x.offer(0, 5, 0), 1);
        CHECK.due("offer for another name", x.offer(1, 29, 0), 1);
        CHECK.due("names offered by 1", x.told(1, 5), 2);
        CHECK.due("names offered by 0", x.told(0, 5), 1);
        CHECK.due("offering makes none", x.count(3), 0);
    }
}

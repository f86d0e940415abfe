/** Promises 11 to 13 and 16 to 18: deploy, upgrade, move, place, told, count. */
final class ContractsTest {
    private static final Check CHECK = new Check("ContractsTest");
    private static final int[] BAD_NUMBERS = {-1, 30, Integer.MIN_VALUE, Integer.MAX_VALUE};

    public static void main(String[] args) {
        deploy();
        upgrade();
        move();
        place();
        told();
        count();
        CHECK.end();
    }

    /** LOADERS 0, 1; at 0 the CLASSES 5 .. 8 of the LANES 0 .. 3 with METHOD 0 that puts at place 0 .. 3; a FACE 9. */
    private static ContractLoaders lanes() {
        ContractLoaders x = new ContractLoaders();
        x.loader(0);
        for (int lane = 0; lane < 4; lane++) {
            int f = x.file(5 + lane, -1, false, false, lane);
            x.act(f, 0, 2, 0, 0);
            for (int a = 1; a < 4; a++) {
                x.act(f, 0, 0, a, 10 * a);
            }
            x.offer(0, 5 + lane, f);
        }
        x.offer(0, 9, x.file(9, -1, true, false, 0));
        return x;
    }

    private static void deploy() {
        ContractLoaders x = lanes();
        CHECK.due("deploy a face", x.deploy(1, 9), -26);
        CHECK.due("deploy none", x.deploy(1, 10), -21);
        for (int n = 0; n < 10; n++) {
            CHECK.due("deploy " + n, x.deploy(1, 5 + n % 4), n);
            CHECK.due("its loader", x.told(n, 0), 1);
            CHECK.due("its name", x.told(n, 1), 5 + n % 4);
            CHECK.due("its lane", x.told(n, 2), n % 4);
            CHECK.due("its places", x.place(n, n % 4), 0);
        }
        x.release(0);
        int made = x.count(4);
        CHECK.due("deploy 10", x.deploy(1, 5), -2);
        CHECK.due("full ahead of failures", x.deploy(1, 10), -2);
        CHECK.due("full finds nothing", x.count(4), made);
        for (int b : BAD_NUMBERS) {
            CHECK.due("deploy loader " + b, x.deploy(b, 5), -1);
            CHECK.due("deploy name " + b, x.deploy(1, b), -1);
        }
        CHECK.due("contracts", x.count(2), 10);
    }

    private static void upgrade() {
        ContractLoaders x = lanes();
        x.deploy(0, 6);
        x.call(0, 0, 7);
        CHECK.due("upgrade", x.upgrade(0, 1, 7), 1);
        CHECK.due("its loader", x.told(0, 0), 1);
        CHECK.due("its name", x.told(0, 1), 7);
        CHECK.due("the lane of its row stays", x.told(0, 2), 1);
        CHECK.due("its row stays", x.place(0, 0), 7);
        CHECK.due("its row stays, 3", x.place(0, 3), 30);
        CHECK.due("its row is of another lane", x.call(0, 0, 8), -28);
        CHECK.due("upgrade to a face", x.upgrade(0, 0, 9), -26);
        CHECK.due("upgrade to none", x.upgrade(0, 0, 10), -21);
        CHECK.due("its loader stays", x.told(0, 0), 1);
        CHECK.due("its name stays", x.told(0, 1), 7);
        CHECK.due("upgrade back", x.upgrade(0, 0, 6), 1);
        CHECK.due("it works again", x.call(0, 0, 8), 1);
        CHECK.due("on its row", x.place(0, 3), 60);
        for (int b : BAD_NUMBERS) {
            CHECK.due("upgrade contract " + b, x.upgrade(b, 0, 5), -1);
            CHECK.due("upgrade loader " + b, x.upgrade(0, b, 5), -1);
            CHECK.due("upgrade name " + b, x.upgrade(0, 0, b), -1);
        }
        CHECK.due("upgrade contract 1", x.upgrade(1, 0, 5), -1);
    }

    private static void move() {
        for (int lane = 0; lane < 4; lane++) {
            moves(lane);
        }
        ContractLoaders x = lanes();
        x.deploy(0, 5);
        for (int b : BAD_NUMBERS) {
            CHECK.due("move contract " + b, x.move(b, 0, 0, 1), -1);
            CHECK.due("move lane " + b, x.move(0, b, 0, 1), -1);
        }
        CHECK.due("move lane 4", x.move(0, 4, 0, 1), -1);
        CHECK.due("move n 5", x.move(0, 1, 9, 5), -1);
        CHECK.due("move n most", x.move(0, 0, 0, Integer.MAX_VALUE), -1);
        CHECK.due("9 ahead of 10", x.move(0, 1, 9, 4), -29);
    }

    private static void moves(int lane) {
        for (int i = -1; i <= 5; i++) {
            for (int n = -1; n <= 4; n++) {
                ContractLoaders x = lanes();
                x.deploy(0, 5 + lane);
                x.call(0, 0, 5);
                boolean fits = i >= 0 && n >= 0 && i + n <= 4;
                CHECK.due("move(0, " + lane + ", " + i + ", " + n + ")", x.move(0, lane, i, n), fits ? 1 : -30);
                CHECK.due("another lane", x.move(0, (lane + 1) % 4, i, n), -29);
                for (int p = 0; p < 4; p++) {
                    long from = fits ? p < n ? p + i : -1 : p;
                    long now = from < 0 ? 0 : from == 0 ? 5 : 10 * from;
                    CHECK.due("place " + p + " then", x.place(0, p), lane == 3 ? Double.doubleToLongBits(now) : now);
                }
                CHECK.due("its lane", x.told(0, 2), lane);
            }
        }
        ContractLoaders x = lanes();
        x.deploy(0, 5 + lane);
        CHECK.due("far i", x.move(0, lane, Integer.MAX_VALUE, 4), -30);
        CHECK.due("far i below", x.move(0, lane, Integer.MIN_VALUE, 4), -30);
        CHECK.due("far n below", x.move(0, lane, 0, Integer.MIN_VALUE), -30);
    }

    private static void place() {
        ContractLoaders x = lanes();
        for (int lane = 0; lane < 4; lane++) {
            x.deploy(0, 5 + lane);
        }
        long[] values = {0, 1, -1, 2, 3, -7, 127, 128, -129, 1L << 31, -(1L << 31) - 1, (1L << 53) + 1, (1L << 52) - 1,
            Long.MAX_VALUE, Long.MIN_VALUE, Long.MIN_VALUE + 1, 0x0123456789abcdefL, -1000000007L};
        for (long v : values) {
            for (int lane = 0; lane < 4; lane++) {
                CHECK.due("call " + lane + " with " + v, x.call(lane, 0, v), 1);
            }
            CHECK.due("bytes of " + v, x.place(0, 0), (byte) v);
            CHECK.due("ints of " + v, x.place(1, 0), (int) v);
            CHECK.due("longs of " + v, x.place(2, 0), v);
            CHECK.due("doubles of " + v, x.place(3, 0), Double.doubleToLongBits((double) v));
        }
        CHECK.due("bytes run over", x.place(0, 3), (byte) (30 * values.length));
        CHECK.due("ints", x.place(1, 3), 30 * values.length);
        CHECK.due("doubles", x.place(3, 3), Double.doubleToLongBits(30.0 * values.length));
        int[] none = {-1, 4, Integer.MIN_VALUE, Integer.MAX_VALUE};
        for (int b : none) {
            CHECK.dueNoPlace(x, b, 0);
            CHECK.dueNoPlace(x, 0, b);
        }
    }

    private static void told() {
        ContractLoaders x = lanes();
        x.loader(1);
        x.deploy(2, 7);
        CHECK.due("loader of 0", x.told(0, 0), 2);
        CHECK.due("name of 0", x.told(0, 1), 7);
        CHECK.due("lane of 0", x.told(0, 2), 2);
        CHECK.due("parent of 0", x.told(0, 3), -3);
        CHECK.due("parent of 1", x.told(1, 3), 0);
        CHECK.due("parent of 2", x.told(2, 3), 1);
        CHECK.due("classes of 0", x.told(0, 4), 1);
        CHECK.due("classes of 2", x.told(2, 4), 0);
        CHECK.due("offers of 0", x.told(0, 5), 5);
        CHECK.due("offers of 2", x.told(2, 5), 0);
        for (int what = 0; what < 6; what++) {
            CHECK.due("told(-1, " + what + ")", x.told(-1, what), -1);
            CHECK.due("told(most, " + what + ")", x.told(Integer.MAX_VALUE, what), -1);
            CHECK.due("told(3, " + what + ")", x.told(3, what), -1);
            CHECK.due("told(1, " + what + ") of a contract", what < 3 ? x.told(1, what) : -1, -1);
        }
        CHECK.due("told(0, -1)", x.told(0, -1), -1);
        CHECK.due("told(0, 6)", x.told(0, 6), -1);
        CHECK.due("told(0, most)", x.told(0, Integer.MAX_VALUE), -1);
    }

    private static void count() {
        ContractLoaders x = lanes();
        x.deploy(0, 5);
        x.deploy(0, 6);
        x.call(0, 0, 1);
        x.call(0, 1, 1);
        x.call(9, 0, 1);
        x.release(0);
        x.find(0, 5);
        int[] due = {5, 2, 2, 1, 3, 4, 2, 1};
        for (int what = 0; what < 8; what++) {
            CHECK.due("count(" + what + ")", x.count(what), due[what]);
        }
        int[] none = {-1, 8, Integer.MIN_VALUE, Integer.MAX_VALUE};
        for (int what : none) {
            CHECK.due("count(" + what + ")", x.count(what), -1);
        }
    }
}

/** Promises 2 and 4: the tape and the arguments. */
public final class TapeTest {
    public static void main(String[] args) {
        feeding();
        fullTape();
        bytesInOrder();
        giving();
        Support.end();
    }

    private static void feeding() {
        ModuleHouse x = new ModuleHouse();
        Support.due("one byte", x.feed(1, 0x1234), 1);
        Support.due("eight more", x.feed(8, -1), 9);
        for (int n : new int[] {0, 9, -1, Integer.MIN_VALUE, Integer.MAX_VALUE}) {
            Support.dueText("feed of " + n, Support.said(() -> x.feed(n, 0)), Support.ARGUMENT);
        }
        Support.due("the tape", x.look(8), 9);
        x.load();
        Support.due("the tape is used up by a load", x.look(8), 0);
        x.feed(3, 0);
        x.call(0);
        Support.due("the tape is used up by a call", x.look(8), 0);
    }

    private static void fullTape() {
        ModuleHouse x = new ModuleHouse();
        for (int k = 0; k < 1023; k++) {
            x.feed(8, 0);
        }
        Support.due("nearly full", x.feed(7, 0), 8191);
        Support.dueText("too much", Support.said(() -> x.feed(2, 0)), Support.STATE);
        Support.dueText("too much, and wrong", Support.said(() -> x.feed(9, 0)), Support.ARGUMENT);
        Support.due("nothing came", x.look(8), 8191);
        Support.due("full", x.feed(1, 0), 8192);
        Support.dueText("one more", Support.said(() -> x.feed(1, 0)), Support.STATE);
        Support.due("all of it is read", x.load(), -1);
    }

    private static void bytesInOrder() {
        ModuleHouse x = new ModuleHouse();
        x.feed(4, 0x0061736dL);
        x.feed(4, 1);
        Support.due("highest first", x.load(), -1);
        x.feed(3, 0xffffffffff736100L);
        x.feed(5, 0x016dL);
        Support.due("in two pieces", x.load(), 0);
        x.feed(4, 0xffffffff6d736100L);
        x.feed(4, 1);
        Support.due("lowest first, and no more than n", x.load(), 0);
    }

    private static void giving() {
        ModuleHouse x = new ModuleHouse();
        for (int k = 1; k <= 16; k++) {
            Support.due("argument", x.give(k), k);
        }
        Support.dueText("a 17th", Support.said(() -> x.give(0)), Support.STATE);
        Support.due("arguments", x.look(9), 16);
        x.load();
        Support.due("arguments stay through a load", x.look(9), 16);
        Support.dueText("wrong turns", Support.said(() -> x.call(-1)), Support.ARGUMENT);
        Support.due("and through what throws", x.look(9), 16);
        x.call(0);
        Support.due("a call uses them up", x.look(9), 0);
        int[] sixteen = Support.many(16, Support.I64);
        Object[] code = new Object[16];
        for (int k = 0; k < 16; k++) {
            code[k] = Support.b(0x20, k);
        }
        Support.House house = Support.one(sixteen, sixteen, code).house();
        long[] given = new long[16];
        for (int k = 0; k < 16; k++) {
            given[k] = Long.MIN_VALUE + k;
        }
        Support.due("sixteen arguments", house.call('a', 1, given), 0);
        for (int k = 0; k < 16; k++) {
            Support.due("result " + k, house.x.result(k), given[k]);
        }
        Support.dueText("result 16", Support.said(() -> house.x.result(16)), Support.NO_SUCH);
        Support.due("results", house.x.look(5), 16);
    }
}

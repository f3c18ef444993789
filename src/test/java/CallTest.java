import static java.lang.Integer.MAX_VALUE;

/** Promises 3, 5, 6, 7, 8 and 9: instances, calls, turns, depth, and what can be seen of them. */
public final class CallTest {
    private static final int I32 = Support.I32;
    private static final int I64 = Support.I64;
    private static final int[] NOTHING = {};
    private static final int[] I = {I32};

    public static void main(String[] args) {
        answersBelowZero();
        names();
        wrongTurns();
        turns();
        turnsOfBranches();
        depth();
        changesStay();
        results();
        globals();
        bytes();
        looks();
        elements();
        data();
        starts();
        reloads();
        Support.end();
    }

    private static int[] b(Object... parts) {
        return Support.b(parts);
    }

    private static void due(String what, long got, long want) {
        Support.due(what, got, want);
    }

    private static void answersBelowZero() {
        Support.Mod mod = new Support.Mod();
        mod.global(I, 1, 0x41, 0);
        mod.fn(mod.type(0x60, 2, I32, I64, 1, I32), 0x41, 3);
        mod.fn(mod.type(0x60, 1, 0x6d, 0), NOTHING);
        mod.fn(mod.type(0x60, 2, I32, 0x64, 0x6c, 0), NOTHING);
        mod.export('g', 3, 0);
        Support.House house = mod.house();
        due("good", house.call('a', 7, 1, 2), 0);
        due("too few", house.call('a', 9, 1), -3);
        due("what answered below 0 does not count", house.x.look(6), 6);
        due("but its results are none", house.x.look(5), 0);
        Support.dueText("result", Support.said(() -> house.x.result(0)), Support.NO_SUCH);
        due("too many", house.call('a', 9, 1, 2, 3), -3);
        due("the arguments are used up", house.x.look(9), 0);
        due("a parameter that is no number", house.call('b', 9, 1), -3);
        due("one that is no number among others", house.call('c', 9, 1, 1), -3);
        due("no number, and none given", house.call('b', 9), -3);
        due("no such name", house.call('z', 9), -2);
        due("no function", house.call('g', 9), -2);
        due("no function, wrong arguments too", house.call('g', 9, 1), -2);
        due("no turns", house.call('a', 0, 1, 2), 13);
        due("none were left", house.x.look(6), 0);
    }

    private static void names() {
        Support.Mod mod = new Support.Mod();
        int type = mod.type(0x60, 0, 1, I32);
        mod.fn(type, 0x41, 1);
        mod.fn(type, 0x41, 2);
        mod.exports.clear();
        mod.exports.add(b(0, 0, 0));
        mod.exports.add(b(12, 'l', 'o', 'n', 'g', 'e', 'r', ' ', 'n', 'a', 'm', 'e', 0xff, 0, 1));
        mod.exports.add(b(3, 'l', 'o', 'n', 0, 0));
        Support.House house = mod.house();
        due("no name", house.x.call(1), 0);
        due("its answer", house.x.result(0), 1);
        house.feed(b('l', 'o', 'n', 'g', 'e', 'r', ' ', 'n', 'a', 'm', 'e', 0xff));
        due("a longer name", house.x.call(1), 0);
        due("its answer", house.x.result(0), 2);
        house.feed(b('l', 'o', 'n', 'g'));
        due("a part of it", house.x.call(1), -2);
        house.feed(b('l', 'o', 'n'));
        due("a name that is part of another", house.x.call(1), 0);
    }

    private static void wrongTurns() {
        Support.House house = Support.one(I, I, 0x20, 0).house();
        due("a call", house.call('a', MAX_VALUE, 5), 0);
        due("turns left", house.x.look(6), MAX_VALUE - 1);
        house.x.give(8);
        house.x.feed(1, 'a');
        Support.dueText("turns below 0", Support.said(() -> house.x.call(-1)), Support.ARGUMENT);
        due("the tape stays", house.x.look(8), 1);
        due("the arguments stay", house.x.look(9), 1);
        due("the results stay", house.x.result(0), 5);
        due("the turns stay", house.x.look(6), MAX_VALUE - 1);
        due("then with some", house.x.call(1), 0);
        due("its result", house.x.result(0), 8);
    }

    private static void turns() {
        Support.Mod mod = new Support.Mod();
        int type = mod.type(0x60, 1, I32, 0);
        mod.fn(type, 0x03, 0x40, 0x20, 0, 0x41, 1, 0x6b, 0x22, 0, 0x0d, 0, 0x0b);
        mod.fn(type, 0x20, 0, 0x10, 0, 0x20, 0, 0x10, 0);
        Support.House house = mod.house();
        due("ten times round", house.call('a', 100, 10), 0);
        due("one for the call, nine for the ways back", house.x.look(6), 90);
        due("just enough", house.call('a', 10, 10), 0);
        due("none left", house.x.look(6), 0);
        due("one too few", house.call('a', 9, 10), 13);
        due("none left at the trap", house.x.look(6), 0);
        due("two calls within", house.call('b', 100, 10), 0);
        due("21 of 100", house.x.look(6), 79);
        due("not enough for the second one", house.call('b', 11, 10), 13);
    }

    private static void turnsOfBranches() {
        Support.Mod mod = new Support.Mod();
        int type = mod.type(0x60, 0, 0);
        int anything = mod.type(0x60, 1, 0x6d, 0);
        int[] again = b(0x23, 0, 0x41, 1, 0x6a, 0x24, 0);
        mod.global(I, 1, 0x41, 0);
        mod.fn(type, 0x03, 0x40, again, 0x0c, 0, 0x0b);
        mod.fn(type, 0x03, 0x40, again, 0x41, 1, 0x0d, 0, 0x0b);
        mod.fn(type, 0x03, 0x40, again, 0x41, 1, 0x0e, 1, 1, 0, 0x0b);
        mod.fn(type, 0x03, 0x40, again, 0xd0, 0x6d, 0xd5, 0, 0x1a, 0x0b);
        mod.fn(type, 0xd0, 0x6d, 0x03, anything, 0x1a, again, 0x41, 1, 0xfb, 28, 0xd6, 0, 0x0b);
        mod.export('g', 3, 0);
        Support.House house = mod.house();
        for (int k = 0; k < 5; k++) {
            due("without end " + k, house.call('a' + k, 20), 13);
            due("so many times round " + k, house.x.global(5), 20 * (k + 1));
        }
        Support.House block = Support.one(NOTHING, NOTHING, Support.many(9, 0x02, 0x40, 0x0c, 0, 0x0b)).house();
        due("ways to ends are free", block.call('a', 1), 0);
        Support.House begins = Support.one(NOTHING, NOTHING, Support.many(9, 0x03, 0x40, 0x41, 0, 0x0d, 0, 0x0b)).house();
        due("loops that are only gone into are free", begins.call('a', 1), 0);
        Support.House out = Support.one(NOTHING, NOTHING, 0x03, 0x40, 0x0c, 1, 0x0b).house();
        due("out of the function is free", out.call('a', 1), 0);
    }

    private static void depth() {
        Support.Mod mod = new Support.Mod();
        int type = mod.type(0x60, 1, I32, 1, I32);
        mod.fn(type, 0x20, 0, 0x04, I32, 0x20, 0, 0x41, 1, 0x6b, 0x10, 0, 0x41, 1, 0x6a, 0x05, 0x41, 1, 0x0b);
        Support.House house = mod.house();
        due("60 calls within one another", house.call('a', 100, 59), 0);
        due("so many", house.x.result(0), 60);
        due("61", house.call('a', 100, 60), 12);
        due("the turn was taken", house.x.look(6), 39);
        due("the turn is looked at first", house.call('a', 60, 60), 13);
        due("with one turn more", house.call('a', 61, 60), 12);
        due("none left", house.x.look(6), 0);
        due("after a trap", house.call('a', 100, 5), 0);
        due("so many", house.x.result(0), 6);
        Support.Mod wide = new Support.Mod();
        int wideType = wide.type(0x60, 1, I32, 1, I32);
        wide.fnWith(wideType, b(1, Support.u(199), I64), Support.many(97, 0x41, 0), 0x20, 0, 0x41, 1, 0x6b, 0x10, 0,
                Support.many(98, 0x1a), 0x41, 0);
        due("the widest stacks", wide.house().call('a', 1000, 5), 12);
    }

    private static void changesStay() {
        Support.Mod mod = new Support.Mod().memory(1, 1, 2);
        mod.global(I, 1, 0x41, 0);
        mod.fn(mod.type(0x60, 0, 1, I32), 0x41, 5, 0x24, 0, 0x41, 8, 0x41, 9, 0x3a, 0, 0, 0x41, 1, 0x40, 0, 0x1a, 0x00);
        mod.export('g', 3, 0);
        Support.House house = mod.house();
        due("a trap", house.call('a', 5), 1);
        due("the global", house.x.global(1), 5);
        due("the byte", house.x.at(8), 9);
        due("the pages", house.x.look(3), 2);
        due("results", house.x.look(5), 0);
        due("turns at it", house.x.look(6), 4);
    }

    private static void results() {
        Support.Mod mod = new Support.Mod();
        mod.type(0x5f, 0);
        int type = mod.type(0x60, 0, 6, I32, I64, 0x6d, 0x63, 0, 0x64, 0, 0x6c);
        mod.fn(type, Support.i32(-1), Support.i64(Long.MIN_VALUE), 0xd0, 0x6d, 0xd0, 0, 0xfb, 1, 0, 0x41, 0, 0xfb, 28);
        mod.fn(mod.type(0x60, 0, 0), NOTHING);
        mod.fn(mod.type(0x60, 0, 1, 0x6d), 0x00);
        Support.House house = mod.house();
        due("a call", house.call('a', 1), 0);
        long[] want = {-1, Long.MIN_VALUE, 0, 0, 1, 1};
        for (int k = 0; k < want.length; k++) {
            due("result " + k, house.x.result(k), want[k]);
        }
        for (int k : new int[] {6, -1, MAX_VALUE, Integer.MIN_VALUE}) {
            Support.dueText("result " + k, Support.said(() -> house.x.result(k)), Support.NO_SUCH);
        }
        due("a trap", house.call('c', 1), 1);
        Support.dueText("result after a trap", Support.said(() -> house.x.result(0)), Support.NO_SUCH);
        due("a call without results", house.call('b', 1), 0);
        Support.dueText("result of none", Support.said(() -> house.x.result(0)), Support.NO_SUCH);
    }

    private static void globals() {
        Support.Mod mod = new Support.Mod().memory(0, 1).table(0, 1);
        mod.type(0x5f, 0);
        mod.global(I, 1, Support.i32(Integer.MIN_VALUE));
        mod.global(b(I64), 1, Support.i64(Long.MAX_VALUE));
        mod.global(b(0x6d), 1, 0xd0, 0x6d);
        mod.global(b(I64), 0, 0x42, 5);
        mod.fn(mod.type(0x60, 0, 0), 0x41, 0, 0xfb, 28, 0x24, 2);
        mod.fn(mod.type(0x60, 0, 0), 0xfb, 1, 0, 0x24, 2);
        mod.export('p', 1, 0).export('q', 2, 0).export('x', 3, 1).export('y', 3, 0).export('z', 3, 2).export('w', 3, 3);
        Support.House house = mod.house();
        String[] want = {Support.NO_SUCH, Support.NO_SUCH, Support.NO_SUCH, Support.NO_SUCH, Long.toString(Long.MAX_VALUE), Integer.toString(Integer.MIN_VALUE), "0", "5", Support.NO_SUCH};
        for (int k = 0; k < want.length; k++) {
            int export = k;
            Support.dueText("global " + k, Support.said(() -> house.x.global(export)), want[k]);
        }
        Support.dueText("global below 0", Support.said(() -> house.x.global(-1)), Support.NO_SUCH);
        Support.dueText("global far off", Support.said(() -> house.x.global(MAX_VALUE)), Support.NO_SUCH);
        house.call('a', 1);
        due("a small 0", house.x.global(6), 1);
        house.call('b', 1);
        due("an object", house.x.global(6), 1);
    }

    private static void bytes() {
        Support.House house = new Support.Mod().memory(0, 1).data(4090, 250, 1, 2, 3, 4, 255).house();
        due("a byte", house.x.at(4090), 250);
        due("the last one", house.x.at(4095), 255);
        due("a 0", house.x.at(0), 0);
        for (int address : new int[] {4096, -1, MAX_VALUE, Integer.MIN_VALUE, 65536}) {
            Support.dueText("at " + address, Support.said(() -> house.x.at(address)), Support.NO_SUCH);
        }
        Support.House none = new Support.Mod().house();
        Support.dueText("without a memory", Support.said(() -> none.x.at(0)), Support.NO_SUCH);
        Support.House empty = new Support.Mod().memory(0, 0).house();
        Support.dueText("without pages", Support.said(() -> empty.x.at(0)), Support.NO_SUCH);
    }

    private static void looks() {
        Support.Mod mod = new Support.Mod().memory(0, 3).table(1, 5, 9);
        mod.type(0x5f, 0);
        mod.type(0x5e, I32, 0);
        int type = mod.type(0x60, 0, 2, I32, I32);
        mod.fn(type, 0x41, 0, 0x41, 0);
        mod.fn(type, 0x41, 0, 0x41, 0);
        mod.export('m', 2, 0);
        Support.House house = mod.house();
        int[] before = {1, 2, 3, 3, 5, 0, 0, 0, 0, 0, 3};
        for (int what = 0; what < before.length; what++) {
            due("look " + what, house.x.look(what), before[what]);
        }
        house.call('a', 50);
        house.x.feed(5, 0);
        house.x.give(0);
        int[] after = {1, 2, 3, 3, 5, 2, 49, 0, 5, 1, 3};
        for (int what = 0; what < after.length; what++) {
            due("look " + what + " after a call", house.x.look(what), after[what]);
        }
        for (int what : new int[] {-1, 11, MAX_VALUE, Integer.MIN_VALUE}) {
            Support.dueText("look " + what, Support.said(() -> house.x.look(what)), Support.ARGUMENT);
        }
        ModuleHouse empty = new ModuleHouse();
        Support.dueText("look 11 without an instance", Support.said(() -> empty.look(11)), Support.ARGUMENT);
        due("no memory", new Support.Mod().house().x.look(3), 0);
        due("no table", new Support.Mod().house().x.look(4), 0);
    }

    private static Support.Mod tableMod() {
        Support.Mod mod = new Support.Mod().table(0, 3).memory(0, 1);
        int number = mod.type(0x60, 0, 1, I32);
        mod.type(0x60, 1, I32, 1, I32);
        mod.fn(1, 0x20, 0, 0x11, number, 0);
        mod.fn(number, 0x41, 11);
        mod.fn(number, 0x41, 12);
        return mod;
    }

    private static void elements() {
        Support.House house = tableMod().element(0, 1, 1, 1).element(1, 2).house();
        due("elements", house.loaded, 0);
        due("place 0", house.value(0), 11);
        due("the later one", house.value(1), 12);
        due("place 2", house.value(2), 11);
        Support.House over = tableMod().element(0, 1).element(2, 2, 2).data(0, 7).house();
        due("over the end", over.loaded, 5);
        due("the one before stays", over.value(0), 11);
        due("nothing of it came", over.value(2), Support.TRAPPED + 6);
        due("nor data", over.x.at(0), 0);
        due("there is an instance", over.x.look(0), 1);
        due("none at the very end", tableMod().element(3).loaded(), 0);
        due("none behind it", tableMod().element(4).loaded(), 5);
        due("a place below 0 is far outside", tableMod().element(-1).loaded(), 5);
    }

    private static void data() {
        Support.House house = tableMod().data(4095, 9).data(0, 1, 2, 3).data(1, 7).house();
        due("data", house.loaded, 0);
        due("byte 0", house.x.at(0), 1);
        due("the later one", house.x.at(1), 7);
        due("byte 2", house.x.at(2), 3);
        due("the last byte", house.x.at(4095), 9);
        Support.House over = tableMod().element(0, 1).data(5, 5).data(4095, 6, 7).data(6, 6).house();
        due("over the end", over.loaded, 2);
        due("the one before stays", over.x.at(5), 5);
        due("nothing of it came", over.x.at(4095), 0);
        due("nor what is behind", over.x.at(6), 0);
        due("elements come first", over.value(0), 11);
        due("none at the very end", tableMod().data(4096).loaded(), 0);
        due("none behind it", tableMod().data(4097).loaded(), 2);
        due("a place below 0 is far outside", tableMod().data(-1).loaded(), 2);
        due("elements before data", tableMod().element(9, 0).data(-1).loaded(), 5);
    }

    private static Support.Mod startMod(Object... code) {
        Support.Mod mod = new Support.Mod().memory(0, 1).table(0, 1);
        mod.global(I, 1, 0x41, 0);
        mod.fn(mod.type(0x60, 0, 0), code);
        mod.export('g', 3, 0);
        mod.start = b(0);
        return mod;
    }

    private static void starts() {
        Support.House house = startMod(0x41, 0, 0x2d, 0, 0, 0x24, 0).data(0, 77).house();
        due("a start", house.loaded, 0);
        due("it saw the data", house.x.global(1), 77);
        due("1000 turns, and one was taken", house.x.look(6), 999);
        due("no results", house.x.look(5), 0);
        Support.House trap = startMod(0x41, 5, 0x24, 0, 0x00).house();
        due("a trap", trap.loaded, 1);
        due("it stays as it is", trap.x.global(1), 5);
        due("turns at it", trap.x.look(6), 999);
        due("there is an instance", trap.x.look(0), 1);
        due("it can be used", trap.call('a', 5), 1);
        Support.House endless = startMod(0x03, 0x40, 0x23, 0, 0x41, 1, 0x6a, 0x24, 0, 0x0c, 0, 0x0b).house();
        due("without end", endless.loaded, 13);
        due("so many times round", endless.x.global(1), 1000);
        due("deep", startMod(0x10, 0).loaded(), 12);
        Support.House misfit = startMod(0x41, 5, 0x24, 0).data(9999, 0).house();
        due("data that don't fit", misfit.loaded, 2);
        due("it was not called", misfit.x.global(1), 0);
        due("no turns", misfit.x.look(6), 0);
    }

    private static void reloads() {
        Support.Mod mod = new Support.Mod().memory(0, 2).table(0, 2).data(8191, 4).data(0, 1).element(0, 0);
        mod.global(b(0x6d), 1, 0xd0, 0x6d);
        mod.type(0x5e, 0x6d, 1);
        mod.fn(mod.type(0x60, 0, 1, I32), Support.i32(100), 0xfb, 7, 0, 0x24, 0, 0x41, 3);
        mod.export('g', 3, 0);
        Support.House house = mod.house();
        due("a call", house.call('a', 9), 0);
        due("what lives", house.x.look(7), 101);
        int[] next = new Support.Mod().memory(0, 2).table(0, 2).build();
        house.feed(next);
        due("another module", house.x.load(), 0);
        due("no byte of before", house.x.at(0) + house.x.at(8191), 0);
        int[] looks = {1, 0, 0, 2, 2, 0, 0, 0, 0, 0, 0};
        for (int what = 0; what < looks.length; what++) {
            due("look " + what, house.x.look(what), looks[what]);
        }
        Support.dueText("result", Support.said(() -> house.x.result(0)), Support.NO_SUCH);
        due("the name is gone", house.call('a', 9), -2);
        for (int k = 0; k < 3; k++) {
            house.feed(mod.build());
            due("the first one again", house.x.load(), 0);
            due("its global", house.x.global(1), 0);
            due("a call", house.call('a', 9), 0);
            due("its global set", house.x.global(1), 1);
            due("what lives", house.x.look(7), 101);
        }
    }
}

import static java.lang.Integer.MAX_VALUE;
import static java.lang.Integer.MIN_VALUE;

/** The boundary cases of promises 1, 2 and 4 to 9, as far as they lie in the calls of the face: each sentence has its own test. */
public final class EdgesOfFaceTest {
    private static final int I32 = Support.I32;
    private static final int I64 = Support.I64;
    private static final int[] NOTHING = {};
    private static final int[] I = {I32};

    public static void main(String[] args) {
        manyCalls();
        aNewObjectHasNoInstance();
        feedTakesOneToEight();
        feedTakesTheLowestBytes();
        theTapeHas8192();
        aFullTapeIsReadToItsLastByte();
        feedThatThrowsChangesNothing();
        theTapeIsUsedUp();
        argumentsAreAtMost16();
        argumentsAreUsedUpByCalls();
        callThrowsAheadOfAll();
        callAnswersTheFirstThatHolds();
        namesAreTheWholeTape();
        numbersForParameters();
        turnsFromNoneToMost();
        resultsHaveBounds();
        resultsAreOfTheLatestCall();
        globalsHaveBounds();
        bytesHaveBounds();
        bytesOfPagesThatCame();
        callsThatThrowChangeNothing();
        anErrorLeavesNoInstance();
        aLoadLeavesNothingOfBefore();
        aLoadLeavesNoNumbersOfBefore();
        looksWithoutAnInstance();
        looksWithAnInstance();
        looksAtAnotherWhat();
        looksAtResults();
        looksAtTurns();
        looksAtWhatLives();
        Support.end();
    }

    private static void due(String what, long got, long want) {
        Support.due(what, got, want);
    }

    private static void dueThrow(String what, Support.Call call, String want) {
        Support.dueText(what, Support.said(call), want);
    }

    private static int[] b(Object... parts) {
        return Support.b(parts);
    }

    /* "An object is used for at most 512 calls after it has been made." */
    private static void manyCalls() {
        ModuleHouse x = new ModuleHouse();
        int[] module = Support.one(I, I, 0x20, 0, 0x41, 1, 0x6a).build();
        Support.feedTo(x, module);
        int calls = (module.length + 7) / 8 + 1;
        due("a load", x.load(), 0);
        for (int k = 0; calls + 4 <= 512; calls += 4, k++) {
            due("argument", x.give(k), 1);
            due("name", x.feed(1, 'a'), 1);
            due("call", x.call(1), 0);
            due("result", x.result(0), k + 1);
        }
        for (; calls < 512; calls++) {
            due("the last ones", x.look(0), 1);
        }
    }

    /* "There is no instance." */
    private static void aNewObjectHasNoInstance() {
        ModuleHouse x = new ModuleHouse();
        due("an instance", x.look(0), 0);
        due("call", x.call(0), -1);
        due("call with the most turns", x.call(MAX_VALUE), -1);
        for (int k : new int[] {MIN_VALUE, -1, 0, 1, MAX_VALUE}) {
            dueThrow("result", () -> x.result(k), Support.NO_SUCH);
            dueThrow("global", () -> x.global(k), Support.NO_SUCH);
            dueThrow("at", () -> x.at(k), Support.NO_SUCH);
        }
        due("still none", x.look(0), 0);
        due("an empty tape is no module", x.load(), -1);
    }

    /* "Throws IllegalArgumentException when n is not 1 .. 8." */
    private static void feedTakesOneToEight() {
        for (int n = 1; n <= 8; n++) {
            due("feed of " + n, new ModuleHouse().feed(n, -1), n);
        }
        ModuleHouse x = new ModuleHouse();
        for (int n : new int[] {0, 9, 10, -1, -8, 16, 256, 257, MIN_VALUE, MIN_VALUE + 1, MAX_VALUE}) {
            dueThrow("feed of " + n, () -> x.feed(n, 0), Support.ARGUMENT);
            due("nothing came of " + n, x.look(8), 0);
        }
    }

    /* "The n lowest bytes of v, lowest first": a name of n bytes is found only if just these come. */
    private static void feedTakesTheLowestBytes() {
        int[] bytes = {0x81, 0x00, 0xff, 0x7f, 0x80, 0x01, 0xfe, 0x90};
        long v = 0x90fe01807fff0081L;
        for (int n = 1; n <= 8; n++) {
            Support.Mod mod = Support.one(NOTHING, NOTHING);
            mod.exports.clear();
            mod.exports.add(b(n, java.util.Arrays.copyOf(bytes, n), 0, 0));
            Support.House house = mod.house();
            house.x.feed(n, v);
            due("the lowest " + n, house.x.call(1), 0);
            house.x.feed(n, n == 8 ? v : v & (1L << (8 * n)) - 1);
            due("with 0s above " + n, house.x.call(1), 0);
            house.x.feed(n, v ^ 1L << (8 * n - 1));
            due("its highest bit counts " + n, house.x.call(1), -2);
            house.x.feed(n, v ^ 1);
            due("its lowest bit counts " + n, house.x.call(1), -2);
            for (int k = 0; k < n; k++) {
                house.x.feed(1, bytes[k]);
            }
            due("one by one " + n, house.x.call(1), 0);
        }
    }

    private static ModuleHouse filledTo(int count) {
        ModuleHouse x = new ModuleHouse();
        for (int k = 0; k < count / 8; k++) {
            x.feed(8, 0);
        }
        if (count % 8 > 0) {
            x.feed(count % 8, 0);
        }
        return x;
    }

    /* "come behind the tape (8192 at most)": beyond the calls that an object is used for, but told. */
    private static void theTapeHas8192() {
        for (int n = 1; n <= 8; n++) {
            int bytes = n;
            ModuleHouse just = filledTo(8192 - n);
            due("just full by " + n, just.feed(n, -1), 8192);
            dueThrow("full, one more", () -> just.feed(1, 0), Support.STATE);
            ModuleHouse over = filledTo(8193 - n);
            dueThrow("one too many by " + n, () -> over.feed(bytes, 0), Support.STATE);
            due("nothing of them came", over.look(8), 8193 - n);
            if (n > 1) {
                due("but one less fits", over.feed(n - 1, 0), 8192);
            }
        }
    }

    /* A module that ends with the very last byte that the tape can have. */
    private static void aFullTapeIsReadToItsLastByte() {
        int[] whole = b(Support.HEAD, Support.section(5, 1, 0, 2));
        int rest = 8192 - whole.length - 3 - 7;
        int[] data = b(1, 0, 0x41, 0, 0x0b, Support.u(rest), Support.many(rest, 0x55));
        whole = b(whole, Support.section(11, data));
        due("the module's length", whole.length, 8192);
        whole[8191] = 0xa7;
        ModuleHouse x = new ModuleHouse();
        Support.feedTo(x, whole);
        due("a full tape", x.look(8), 8192);
        due("loaded", x.load(), 0);
        due("its last byte", x.at(rest - 1), 0xa7);
        due("the one before", x.at(rest - 2), 0x55);
        due("behind it", x.at(rest), 0);
        due("the tape is empty", x.look(8), 0);
        Support.feedTo(x, Support.many(8192, 'a'));
        due("no such long name", x.call(1), -2);
    }

    /* "Of several exceptions the first one told is thrown; a call that throws changes nothing." */
    private static void feedThatThrowsChangesNothing() {
        ModuleHouse full = filledTo(8192);
        for (int n : new int[] {0, 9, -1, MIN_VALUE, MAX_VALUE}) {
            dueThrow("both wrong, n " + n, () -> full.feed(n, 0), Support.ARGUMENT);
        }
        dueThrow("only too many", () -> full.feed(8, 0), Support.STATE);
        due("as full as before", full.look(8), 8192);
        due("and its bytes are as before", full.load(), -1);
        Support.House house = Support.one(NOTHING, I, 0x41, 9).house();
        house.x.feed(1, 'a');
        dueThrow("feed of 0", () -> house.x.feed(0, 'b'), Support.ARGUMENT);
        dueThrow("feed of 9", () -> house.x.feed(9, 'b'), Support.ARGUMENT);
        due("the name is as before", house.x.call(1), 0);
    }

    /* load: "The tape, which is used up in any case"; call: "which is used up". */
    private static void theTapeIsUsedUp() {
        Support.House house = Support.one(I, NOTHING, 0x00).house();
        due("behind a load", house.x.look(8), 0);
        due("the next byte is the first", house.x.feed(1, 'a'), 1);
        due("another number of parameters", house.x.call(1), -3);
        due("behind -3", house.x.look(8), 0);
        house.x.feed(2, 'a');
        due("no such name", house.x.call(1), -2);
        due("behind -2", house.x.look(8), 0);
        due("a trap", house.call('a', 1, 5), 1);
        due("behind a trap", house.x.look(8), 0);
        house.x.feed(8, 0);
        due("an error", house.x.load(), -1);
        due("behind an error", house.x.look(8), 0);
        house.x.feed(3, 0);
        due("no instance", house.x.call(1), -1);
        due("behind -1", house.x.look(8), 0);
        due("an empty tape again", house.x.load(), -1);
    }

    /* "An argument for the next call comes behind those before (at most 16): how many." */
    private static void argumentsAreAtMost16() {
        int[] sixteen = Support.many(16, I64);
        Object[] code = new Object[16];
        for (int k = 0; k < 16; k++) {
            code[k] = b(0x20, k);
        }
        Support.House house = Support.one(sixteen, sixteen, code).house();
        for (int k = 1; k <= 16; k++) {
            due("how many", house.x.give(100 + k), k);
        }
        for (int k = 0; k < 3; k++) {
            dueThrow("one more", () -> house.x.give(999), Support.STATE);
            due("still 16", house.x.look(9), 16);
        }
        house.x.feed(1, 'a');
        due("with all 16", house.x.call(1), 0);
        for (int k = 0; k < 16; k++) {
            due("in their order", house.x.result(k), 101 + k);
        }
        due("the next one is the first", house.x.give(1), 1);
        due("15 are not enough", house.call('a', 1, new long[14]), -3);
        due("16 are", house.call('a', 1, new long[16]), 0);
    }

    /* "The function .. is called .. (.. is used up, and the arguments)"; of load: "arguments stay". */
    private static void argumentsAreUsedUpByCalls() {
        Support.House house = Support.one(I, I, 0x20, 0).house();
        due("too many", house.call('a', 1, 1, 2), -3);
        due("behind -3", house.x.look(9), 0);
        due("no such name", house.call('z', 1, 1, 2), -2);
        due("behind -2", house.x.look(9), 0);
        due("no turns", house.call('a', 0, 1), 13);
        due("behind a trap", house.x.look(9), 0);
        house.x.give(7);
        due("an error", house.x.load(), -1);
        due("it stays through an error", house.x.look(9), 1);
        house.feed(Support.one(I, I, 0x20, 0).build());
        due("a module", house.x.load(), 0);
        due("it stays through a module", house.x.look(9), 1);
        due("and is the call's", house.call('a', 1), 0);
        due("its value", house.x.result(0), 7);
        house.x.load();
        house.x.give(1);
        due("no instance", house.x.call(1), -1);
        due("behind -1", house.x.look(9), 0);
    }

    /* "Throws IllegalArgumentException when turns are below 0", and changes nothing. */
    private static void callThrowsAheadOfAll() {
        ModuleHouse none = new ModuleHouse();
        none.feed(2, 0);
        none.give(3);
        for (int turns : new int[] {-1, -2, MIN_VALUE}) {
            dueThrow("without an instance", () -> none.call(turns), Support.ARGUMENT);
            due("the tape stays", none.look(8), 2);
            due("the arguments stay", none.look(9), 1);
        }
        Support.House house = Support.one(I, I, 0x20, 0).house();
        due("a call", house.call('a', 9, 4), 0);
        dueThrow("no such name", () -> house.call('z', -1), Support.ARGUMENT);
        due("the results stay", house.x.look(5), 1);
        due("the turns stay", house.x.look(6), 8);
        due("the tape stays", house.x.look(8), 1);
        due("no turns at all are no error", house.x.call(0), -2);
    }

    /* "otherwise, without a call, the first that holds: -1 .. -2 .. -3". */
    private static void callAnswersTheFirstThatHolds() {
        Support.Mod mod = new Support.Mod().table(0, 1).memory(0, 1);
        mod.global(I, 1, 0x41, 0);
        mod.fn(mod.type(0x60, 1, 0x6d, 0), 0x41, 1, 0x24, 0);
        mod.fn(mod.type(0x60, 1, I32, 0), 0x41, 1, 0x24, 0);
        mod.export('t', 1, 0).export('m', 2, 0).export('g', 3, 0);
        Support.House house = mod.house();
        due("no name, and turns of 0", house.x.call(0), -2);
        due("a name that is not there, with arguments", house.call('x', 5, 1), -2);
        due("a table", house.call('t', 5), -2);
        due("a memory", house.call('m', 5), -2);
        due("a global", house.call('g', 5), -2);
        due("a parameter that is no number, none given", house.call('a', 0), -3);
        due("a parameter that is no number, one given", house.call('a', 0, 0), -3);
        due("one too few", house.call('b', 0), -3);
        due("one too many", house.call('b', 0, 1, 1), -3);
        due("nothing was called", house.x.global(4), 0);
        due("no turn was taken", house.x.look(6), 0);
        due("none left for it", house.call('b', 0, 1), 13);
        due("it was not called either", house.x.global(4), 0);
        due("called", house.call('b', 1, 1), 0);
        due("now it was", house.x.global(4), 1);
        house.x.load();
        due("without an instance", house.call('a', 0), -1);
        due("without an instance or a name", house.x.call(0), -1);
    }

    /* "The function exported under the name that the tape is": all of it, and bytes of any kind. */
    private static void namesAreTheWholeTape() {
        Support.Mod mod = new Support.Mod();
        int type = mod.type(0x60, 0, 1, I32);
        int[][] names = {NOTHING, b(0), b(0, 0), b('a'), b('a', 0), b('a', 'a'), b(0xff), Support.many(200, 'n'), Support.many(199, 'n')};
        for (int k = 0; k < names.length; k++) {
            mod.fn(type, Support.i32(k));
        }
        mod.exports.clear();
        for (int k = 0; k < names.length; k++) {
            mod.exports.add(b(Support.u(names[k].length), names[k], 0, k));
        }
        Support.House house = mod.house();
        for (int k = 0; k < names.length; k++) {
            house.feed(names[k]);
            due("name " + k, house.x.call(1), 0);
            due("which it is", house.x.result(0), k);
        }
        for (int[] other : new int[][] {b(1), b(0, 0, 0), b('a', 1), b(0, 'a'), b('A'), b(0x7f), Support.many(198, 'n'), b(Support.many(199, 'n'), 'm')}) {
            house.feed(other);
            due("no such name", house.x.call(1), -2);
        }
    }

    /* "one that is no number (an i32 takes the lowest 32 bits)". */
    private static void numbersForParameters() {
        Support.House house = Support.one(b(I32, I64), b(I32, I64), 0x20, 0, 0x20, 1).house();
        long[][] given = {{MAX_VALUE, Long.MAX_VALUE}, {0x80000000L, Long.MIN_VALUE}, {0xffffffffL, -1}, {0x1_0000_0000L, 0x1_0000_0000L},
            {0x7fff_ffff_ffff_ffffL, 0xffffffffL}, {Long.MIN_VALUE, 0x80000000L}, {MIN_VALUE, MIN_VALUE}, {-0x80000001L, 0}};
        for (long[] pair : given) {
            due("a call", house.call('a', 1, pair), 0);
            due("the lowest 32 of " + pair[0], house.x.result(0), (int) pair[0]);
            due("all of " + pair[1], house.x.result(1), pair[1]);
        }
        for (int[] type : new int[][] {b(0x6d), b(0x6c), b(0x63, 0), b(0x64, 0), b(0x64, 0x6c)}) {
            for (int place = 0; place < 3; place++) {
                Support.Mod mod = new Support.Mod();
                mod.type(0x5f, 0);
                mod.fn(mod.type(0x60, 3, place == 0 ? type : I, place == 1 ? type : I, place == 2 ? type : I, 0), NOTHING);
                due("no number", mod.house().call('a', 1, 1, 1, 1), -3);
            }
        }
        Support.Mod results = new Support.Mod();
        results.fn(results.type(0x60, 1, I32, 2, 0x6d, 0x6d), 0xd0, 0x6d, 0xd0, 0x6d);
        due("results need be no numbers", results.house().call('a', 1, 1), 0);
    }

    /* "is called with so many turns": none, one, and as many as there can be. */
    private static void turnsFromNoneToMost() {
        Support.House house = Support.one(NOTHING, NOTHING, 0x01).house();
        due("none", house.call('a', 0), 13);
        due("none left", house.x.look(6), 0);
        due("one", house.call('a', 1), 0);
        due("none left again", house.x.look(6), 0);
        due("the most", house.call('a', MAX_VALUE), 0);
        due("one less", house.x.look(6), MAX_VALUE - 1);
    }

    /* "Result k of the latest call ..": below the first, the last, and beyond it. */
    private static void resultsHaveBounds() {
        for (int count : new int[] {0, 1, 2, 16}) {
            int[] code = {};
            for (int k = 0; k < count; k++) {
                code = b(code, Support.i32(-k));
            }
            Support.House house = Support.one(NOTHING, Support.many(count, I32), code).house();
            due("a call", house.call('a', 1), 0);
            for (int k = 0; k < count; k++) {
                due("result " + k + " of " + count, house.x.result(k), -k);
            }
            for (int k : new int[] {-1, MIN_VALUE, count, count + 1, 16, 17, MAX_VALUE}) {
                dueThrow("result " + k + " of " + count, () -> house.x.result(k), Support.NO_SUCH);
            }
        }
    }

    /* "of the latest call (also one that answered below 0), if that was 0". */
    private static void resultsAreOfTheLatestCall() {
        Support.Mod mod = new Support.Mod();
        int type = mod.type(0x60, 0, 2, I32, I32);
        mod.fn(type, 0x41, 1, 0x41, 2);
        mod.fn(type, 0x41, 3, 0x41, 4, 0x00);
        mod.fn(mod.type(0x60, 0, 1, I32), 0x41, 5);
        Support.House house = mod.house();
        int[][] others = {{'b', 1}, {'x', -2}, {'c', 0}, {'b', 1}};
        for (int[] other : others) {
            due("two results", house.call('a', 1), 0);
            due("the second", house.x.result(1), 2);
            due("another call", house.call(other[0], 1), other[1]);
            dueThrow("its second result", () -> house.x.result(1), Support.NO_SUCH);
            Support.dueText("its first", Support.said(() -> house.x.result(0)), other[1] == 0 ? "5" : Support.NO_SUCH);
        }
        house.call('a', 1);
        due("too many arguments", house.call('a', 1, 1), -3);
        dueThrow("no result of that", () -> house.x.result(0), Support.NO_SUCH);
        house.call('a', 1);
        due("no turns", house.call('a', 0), 13);
        dueThrow("nor of that", () -> house.x.result(0), Support.NO_SUCH);
        house.call('a', 1);
        dueThrow("turns below 0", () -> house.x.call(-1), Support.ARGUMENT);
        due("that was no call", house.x.result(1), 2);
        house.feed(mod.build());
        due("a load", house.x.load(), 0);
        dueThrow("no result behind a load", () -> house.x.result(0), Support.NO_SUCH);
        house.call('a', 1);
        house.x.load();
        dueThrow("nor behind an error", () -> house.x.result(0), Support.NO_SUCH);
        house.x.call(1);
        dueThrow("nor of -1", () -> house.x.result(0), Support.NO_SUCH);
    }

    /* "Throws NoSuchElementException when there is none, or it is no global", a reference as 0 or 1. */
    private static void globalsHaveBounds() {
        Support.Mod mod = new Support.Mod().table(0, 1).memory(0, 1);
        mod.type(0x5f, 0);
        mod.global(I, 1, Support.i32(MIN_VALUE));
        mod.global(b(I64), 1, Support.i64(Long.MIN_VALUE));
        mod.global(b(0x6d), 1, 0xd0, 0x6d);
        mod.global(b(0x63, 0), 1, 0xd0, 0);
        mod.global(b(0x6c), 1, 0xd0, 0x6c);
        mod.fn(mod.type(0x60, 0, 0), Support.i32(-1), 0xfb, 28, 0x24, 2, 0xfb, 1, 0, 0x24, 3, 0x41, 0, 0xfb, 28, 0x24, 4);
        mod.fn(mod.type(0x60, 0, 0), 0xd0, 0, 0x24, 2, 0xd0, 0, 0x24, 3, 0xd0, 0x6c, 0x24, 4, Support.i32(-1), 0x24, 0, Support.i64(Long.MAX_VALUE), 0x24, 1);
        mod.export('t', 1, 0).export('m', 2, 0);
        for (int k = 0; k < 5; k++) {
            mod.export('v' + k, 3, k);
        }
        mod.export('n', 3, 1);
        Support.House house = mod.house();
        for (int k : new int[] {MIN_VALUE, -1, 0, 1, 2, 3, 10, 11, 64, 65, MAX_VALUE}) {
            dueThrow("global " + k, () -> house.x.global(k), Support.NO_SUCH);
        }
        long[] first = {MIN_VALUE, Long.MIN_VALUE, 0, 0, 0, Long.MIN_VALUE};
        long[] second = {MIN_VALUE, Long.MIN_VALUE, 1, 1, 1, Long.MIN_VALUE};
        long[] third = {-1, Long.MAX_VALUE, 0, 0, 0, Long.MAX_VALUE};
        dueGlobals(house, first);
        house.call('a', 1);
        dueGlobals(house, second);
        house.call('b', 1);
        dueGlobals(house, third);
        house.feed(Support.HEAD);
        house.x.load();
        dueThrow("exports of a module before", () -> house.x.global(4), Support.NO_SUCH);
        Support.House all = exportsOfOneGlobal().house();
        due("the 64th export", all.x.global(63), 5);
        dueThrow("the 65th", () -> all.x.global(64), Support.NO_SUCH);
        all.feed(Support.one(NOTHING, NOTHING).build());
        due("another module", all.x.load(), 0);
        dueThrow("just behind its exports", () -> all.x.global(1), Support.NO_SUCH);
        all.x.load();
        dueThrow("no instance", () -> all.x.global(0), Support.NO_SUCH);
    }

    private static Support.Mod exportsOfOneGlobal() {
        Support.Mod mod = new Support.Mod();
        mod.global(I, 1, 0x41, 5);
        for (int k = 0; k < 64; k++) {
            mod.export(k, 3, 0);
        }
        return mod;
    }

    private static void dueGlobals(Support.House house, long[] want) {
        for (int k = 0; k < want.length; k++) {
            due("global " + (4 + k), house.x.global(4 + k), want[k]);
        }
    }

    /* "A byte of the memory": below 0, the last byte, the first one beyond, no memory. */
    private static void bytesHaveBounds() {
        for (int pages : new int[] {0, 1, 2, 15, 16}) {
            Support.Mod mod = new Support.Mod().memory(0, pages);
            if (pages > 0) {
                mod.data(0, 0x80).data(4096 * pages - 1, 0xff);
            }
            Support.House house = mod.house();
            int size = 4096 * pages;
            if (pages > 0) {
                due("the first byte", house.x.at(0), 0x80);
                due("the last byte", house.x.at(size - 1), 0xff);
            }
            for (int address : new int[] {size, size + 1, -1, -4096, 65536, 65537, MAX_VALUE, MIN_VALUE, MIN_VALUE + 5}) {
                dueThrow("at " + address + " of " + pages + " pages", () -> house.x.at(address), Support.NO_SUCH);
            }
            house.x.load();
            dueThrow("no instance", () -> house.x.at(0), Support.NO_SUCH);
        }
        Support.House none = Support.one(NOTHING, NOTHING).house();
        dueThrow("no memory", () -> none.x.at(0), Support.NO_SUCH);
    }

    private static void bytesOfPagesThatCame() {
        Support.Mod mod = new Support.Mod().memory(1, 1, 2);
        mod.fn(mod.type(0x60, 1, I32, 1, I32), 0x20, 0, 0x40, 0);
        Support.House house = mod.house();
        dueThrow("beyond the first page", () -> house.x.at(4096), Support.NO_SUCH);
        due("one more", house.value(1), 1);
        due("the first byte of the second page", house.x.at(4096), 0);
        due("its last", house.x.at(8191), 0);
        dueThrow("beyond it", () -> house.x.at(8192), Support.NO_SUCH);
        house.feed(new Support.Mod().memory(0, 1).build());
        house.x.load();
        dueThrow("the next module has one page", () -> house.x.at(4096), Support.NO_SUCH);
        house.feed(Support.HEAD);
        house.x.load();
        dueThrow("the next has none", () -> house.x.at(0), Support.NO_SUCH);
    }

    private static String seen(Support.House house) {
        StringBuilder all = new StringBuilder();
        for (int what = 0; what <= 10; what++) {
            all.append(house.x.look(what)).append(' ');
        }
        for (int k = -1; k <= 6; k++) {
            int at = k;
            all.append(Support.said(() -> house.x.result(at))).append(' ').append(Support.said(() -> house.x.at(at))).append(' ');
        }
        return all.toString();
    }

    /* "a call that throws changes nothing": whatever can be seen is as before. */
    private static void callsThatThrowChangeNothing() {
        Support.House house = full().house();
        house.call('a', 9);
        house.x.feed(7, 'a');
        for (int k = 0; k < 16; k++) {
            house.x.give(k);
        }
        String before = seen(house);
        dueThrow("feed", () -> house.x.feed(9, 0), Support.ARGUMENT);
        dueThrow("give", () -> house.x.give(0), Support.STATE);
        dueThrow("call", () -> house.x.call(-1), Support.ARGUMENT);
        dueThrow("result", () -> house.x.result(6), Support.NO_SUCH);
        dueThrow("global", () -> house.x.global(0), Support.NO_SUCH);
        dueThrow("at", () -> house.x.at(-1), Support.NO_SUCH);
        dueThrow("look", () -> house.x.look(11), Support.ARGUMENT);
        Support.dueText("all of it", seen(house), before);
    }

    /* "an error, and there is no instance": also if all but the code could be one. */
    private static void anErrorLeavesNoInstance() {
        int[][] wrong = {b(0x1a), b(0x06), b(0xfd)};
        int[] errors = {-2, -1, -3};
        for (int k = 0; k < wrong.length; k++) {
            Support.Mod mod = new Support.Mod().memory(0, 1).table(0, 1).data(0, 7);
            mod.global(I, 1, 0x41, 5);
            mod.exports.add(b(1, 'g', 3, 0));
            mod.fn(mod.type(0x60, 0, 0), NOTHING);
            mod.fn(0, wrong[k]);
            Support.House house = mod.house();
            due("the error", house.loaded, errors[k]);
            dueThrow("no global", () -> house.x.global(0), Support.NO_SUCH);
            dueThrow("no byte", () -> house.x.at(0), Support.NO_SUCH);
            due("no function", house.call('a', 5), -1);
            for (int what = 0; what <= 10; what++) {
                due("look " + what, house.x.look(what), 0);
            }
        }
    }

    /** More of all than the modules behind it have; the error makes it one that can be read, but is not right. */
    private static int[] more(int kind, boolean error) {
        Support.Mod mod = new Support.Mod().memory(0, 2).table(0, 3);
        for (int k = 0; k < 5; k++) {
            switch (kind) {
                case 0 -> mod.type(0x60, 4, 0x6d, 0x6d, 0x6d, 0x6d, 4, 0x6d, 0x6d, 0x6d, 0x6d);
                case 1 -> mod.type(0x5f, 4, 0x6d, 1, 0x6d, 1, 0x6d, 1, 0x6d, 1);
                default -> mod.type(0x5e, 0x64, 0x6d, 1);
            }
            mod.global(b(0x6d), 1, error ? b(0x41, 0) : b(0xd0, 0x6d));
        }
        int own = mod.type(0x60, 0, 0);
        for (int k = 0; k < 5; k++) {
            mod.fn(own, 0x00);
            mod.export('p' + k, 3, k);
        }
        return mod.element(0, 1, 2).data(4094, 7, 7, 7, 7).build();
    }

    private static int behind(int[] first, int want, int[] second) {
        ModuleHouse x = new ModuleHouse();
        Support.feedTo(x, first);
        due("the first module", x.load(), want);
        Support.feedTo(x, second);
        return x.load();
    }

    /* "(what was there before goes, with the latest call's results and turns)": calls see only what is theirs. */
    private static void aLoadLeavesNothingOfBefore() {
        Support.Mod mod = new Support.Mod().memory(1, 1, 2).table(0, 3);
        int type = mod.type(0x60, 1, I32, 1, I32);
        mod.global(I, 1, 0x41, 5);
        mod.fnWith(type, b(1, 2, I32), 0x20, 0, 0x20, 1, 0x6a, 0x20, 2, 0x6a, 0x23, 0, 0x6a);
        mod.fn(type, 0x20, 0, 0x11, 1, 0, 0x00);
        mod.fn(type, 0x20, 0, 0x40, 0);
        mod.type(0x60, 0, 0);
        for (int kind = 0; kind < 3; kind++) {
            for (boolean error : new boolean[] {false, true}) {
                ModuleHouse x = new ModuleHouse();
                Support.feedTo(x, more(kind, error));
                due("the first module", x.load(), error ? -2 : 0);
                Support.feedTo(x, mod.build());
                due("the second", x.load(), 0);
                due("a call", called(x, 'a', 9), 0);
                due("its result", x.result(0), 14);
                due("results", x.look(5), 1);
                due("nothing in the table", called(x, 'b', 0), 6);
                due("nothing at its end", called(x, 'b', 2), 6);
                due("no byte", x.at(4095), 0);
                due("one page more", called(x, 'c', 1), 0);
                due("no byte in it", x.at(4096), 0);
                due("no such name", called(x, 'd', 0), -2);
                dueThrow("no such export", () -> x.global(3), Support.NO_SUCH);
                due("types", x.look(10), 2);
                due("functions", x.look(1), 3);
                due("exports", x.look(2), 3);
            }
        }
    }

    private static int called(ModuleHouse x, int letter, long argument) {
        x.give(argument);
        x.feed(1, letter);
        return x.call(9);
    }

    /* A number that was there in the module before, and is not there now. */
    private static void aLoadLeavesNoNumbersOfBefore() {
        Support.Mod plain = Support.one(NOTHING, NOTHING);
        due("good behind others", behind(more(0, false), 0, plain.build()), 0);
        due("good behind an error", behind(more(0, true), -2, plain.build()), 0);
        Support.Mod type = Support.one(NOTHING, NOTHING);
        type.functions.set(0, b(1));
        due("a function's type", behind(more(0, false), 0, type.build()), -2);
        int[][] codes = {b(0x00, 0x11, 1, 0), b(0x02, 1, 0x00, 0x0b, 0x00), b(0x23, 1, 0x1a), b(0x10, 1), b(0x20, 0, 0x1a)};
        for (int[] code : codes) {
            Support.Mod mod = Support.oneWith(new Support.Mod().table(0, 1), NOTHING, NOTHING, code);
            mod.global(I, 1, 0x41, 0);
            due("a number in code", behind(more(0, false), 0, mod.build()), -2);
        }
        int[][] structures = {b(0xd0, 1, 0x1a), b(0xfb, 1, 1, 0x1a), b(0x00, 0xfb, 2, 1, 0), b(0x00, 0xfb, 20, 1), b(0x02, 0x63, 1, 0x00, 0x0b, 0x1a)};
        for (int[] code : structures) {
            due("a structure's number", behind(more(1, false), 0, Support.one(NOTHING, NOTHING, code).build()), -2);
        }
        int[][] arrays = {b(0x00, 0xfb, 6, 1), b(0x00, 0xfb, 11, 1), b(0x00, 0xfb, 14, 1), b(0x00, 0xfb, 8, 1, 0)};
        for (int[] code : arrays) {
            due("an array's number", behind(more(2, false), 0, Support.one(NOTHING, NOTHING, code).build()), -2);
        }
        due("pages without a memory", behind(more(0, false), 0, Support.one(NOTHING, NOTHING, 0x3f, 0, 0x1a).build()), -2);
        due("a call without a table", behind(more(0, false), 0, Support.one(NOTHING, NOTHING, 0x00, 0x11, 0, 0).build()), -2);
        due("an element without a table", behind(more(0, false), 0, Support.one(NOTHING, NOTHING).element(0).build()), -2);
        due("data without a memory", behind(more(0, false), 0, Support.one(NOTHING, NOTHING).data(0).build()), -2);
        for (int kind = 0; kind <= 3; kind++) {
            due("an export of kind " + kind, behind(more(0, false), 0, Support.one(NOTHING, NOTHING).export('z', kind, 1).build()), -2);
        }
        Support.Mod start = Support.one(NOTHING, NOTHING);
        start.start = b(1);
        due("the first call", behind(more(0, false), 0, start.build()), -2);
        Support.Mod first = Support.one(NOTHING, NOTHING, 0x00);
        first.start = b(0);
        due("a first call", behind(first.build(), 1, plain.build()), 0);
    }

    /* "Without an instance 1 to 7 and 10 are 0", and 0 is; 8 and 9 are not an instance's. */
    private static void looksWithoutAnInstance() {
        ModuleHouse x = new ModuleHouse();
        x.feed(5, 0);
        x.give(0);
        x.give(0);
        int[] want = {0, 0, 0, 0, 0, 0, 0, 0, 5, 2, 0};
        for (int what = 0; what <= 10; what++) {
            due("look " + what, x.look(what), want[what]);
        }
        Support.House house = full().house();
        due("a call", house.call('a', 50), 0);
        house.x.give(0);
        due("an error", house.x.load(), -1);
        house.x.feed(3, 0);
        int[] after = {0, 0, 0, 0, 0, 0, 0, 0, 3, 1, 0};
        for (int what = 0; what <= 10; what++) {
            due("behind an error, look " + what, house.x.look(what), after[what]);
        }
        due("no instance", house.x.call(5), -1);
        for (int what = 0; what <= 10; what++) {
            due("behind -1, look " + what, house.x.look(what), 0);
        }
    }

    /** Something of all: each look has a number of its own. */
    private static Support.Mod full() {
        Support.Mod mod = new Support.Mod().memory(1, 3, 4).table(1, 5, 60);
        mod.type(0x5e, I32, 1);
        for (int k = 0; k < 7; k++) {
            mod.type(0x5f, 0);
        }
        mod.global(b(0x6d), 1, 0xd0, 0x6d);
        mod.fn(mod.type(0x60, 0, 6, Support.many(6, I32)), 0x41, 10, 0xfb, 7, 0, 0x24, 0, Support.many(6, 0x41, 0));
        mod.fn(mod.type(0x60, 0, 1, 0x6d), 0x41, 10, 0xfb, 7, 0);
        return mod;
    }

    private static void looksWithAnInstance() {
        Support.House house = full().house();
        int[] before = {1, 2, 2, 3, 5, 0, 0, 0, 0, 0, 10};
        for (int what = 0; what <= 10; what++) {
            due("look " + what, house.x.look(what), before[what]);
        }
        due("a call", house.call('a', 13), 0);
        house.x.feed(8, 0);
        house.x.feed(1, 0);
        for (int k = 0; k < 7; k++) {
            house.x.give(0);
        }
        int[] after = {1, 2, 2, 3, 5, 6, 12, 11, 9, 7, 10};
        for (int what = 0; what <= 10; what++) {
            due("behind a call, look " + what, house.x.look(what), after[what]);
            due("again, look " + what, house.x.look(what), after[what]);
        }
        int[] bare = {1, 0, 0, 0, 0, 0, 0, 0, 0, 7, 0};
        house.x.call(1);
        house.feed(Support.HEAD);
        for (int k = 0; k < 7; k++) {
            house.x.give(0);
        }
        due("a module of nothing", house.x.load(), 0);
        for (int what = 0; what <= 10; what++) {
            due("of nothing, look " + what, house.x.look(what), bare[what]);
        }
    }

    /* "Throws IllegalArgumentException for another what." */
    private static void looksAtAnotherWhat() {
        Support.House house = full().house();
        ModuleHouse none = new ModuleHouse();
        for (int what : new int[] {-1, -2, 11, 12, 255, 256, MAX_VALUE, MIN_VALUE}) {
            dueThrow("look " + what, () -> house.x.look(what), Support.ARGUMENT);
            dueThrow("without an instance, look " + what, () -> none.look(what), Support.ARGUMENT);
        }
    }

    /* "5 results of the latest call (0 unless that was 0)". */
    private static void looksAtResults() {
        Support.Mod mod = full();
        mod.fn(mod.type(0x60, 0, 2, I32, I32), 0x00);
        Support.House house = mod.house();
        due("before", house.x.look(5), 0);
        int[][] calls = {{'a', 9, 0, 6}, {'b', 9, 0, 1}, {'c', 9, 1, 0}, {'a', 9, 0, 6}, {'a', 0, 13, 0}, {'b', 1, 0, 1}, {'z', 9, -2, 0}};
        for (int[] call : calls) {
            due("a call", house.call(call[0], call[1]), call[2]);
            due("its results", house.x.look(5), call[3]);
        }
        house.call('a', 9);
        due("too many arguments", house.call('a', 9, 1), -3);
        due("no results of -3", house.x.look(5), 0);
        house.call('a', 9);
        house.feed(mod.build());
        house.x.load();
        due("none behind a load", house.x.look(5), 0);
    }

    /* "6 turns that were left when the latest function was over that was called from outside (or by load ..)". */
    private static void looksAtTurns() {
        Support.Mod mod = new Support.Mod();
        int type = mod.type(0x60, 0, 0);
        mod.fn(type, 0x10, 1, 0x10, 1);
        mod.fn(type, NOTHING);
        mod.fn(type, 0x10, 1, 0x00);
        Support.House house = mod.house();
        due("0 before", house.x.look(6), 0);
        int[][] calls = {{'a', 10, 0, 7}, {'b', 10, 0, 9}, {'c', 10, 1, 8}, {'z', 99, -2, 8}, {'a', 3, 0, 0}, {'a', 2, 13, 0}, {'c', 1, 13, 0}, {'b', 5, 0, 4}};
        for (int[] call : calls) {
            due("a call", house.call(call[0], call[1]), call[2]);
            due("turns left", house.x.look(6), call[3]);
        }
        due("another number of parameters", house.call('b', 99, 1), -3);
        due("that does not count", house.x.look(6), 4);
        mod.start = b(0);
        house.feed(mod.build());
        due("a load", house.x.load(), 0);
        due("of 1000", house.x.look(6), 997);
        mod.start = b(2);
        house.feed(mod.build());
        due("a load with a trap", house.x.load(), 1);
        due("at the trap", house.x.look(6), 998);
        mod.start = null;
        house.feed(mod.build());
        due("a load without a call", house.x.load(), 0);
        due("the turns are gone", house.x.look(6), 0);
        house.call('b', 5);
        house.x.load();
        due("and with an error", house.x.look(6), 0);
    }

    /* "7 what lives (all calls are over, results refer to nothing)". */
    private static void looksAtWhatLives() {
        Support.House house = full().house();
        due("a result", house.call('b', 1), 0);
        due("it is one", house.x.result(0), 1);
        due("it refers to nothing", house.x.look(7), 0);
        due("it is one still", house.x.result(0), 1);
        due("a global", house.call('a', 1), 0);
        due("refers", house.x.look(7), 11);
        house.x.feed(1, 'a');
        house.x.load();
        due("without an instance", house.x.look(7), 0);
    }
}

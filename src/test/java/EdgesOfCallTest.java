/** The boundary cases of promises 5 and 9 that lie in CALLS and ROOM: turns, calls within one another, what lives, 2000. */
public final class EdgesOfCallTest {
    private static final int I32 = Support.I32;
    private static final int I64 = Support.I64;
    private static final int[] NOTHING = {};
    private static final int[] I = {I32};

    public static void main(String[] args) {
        localsAtFirst();
        aTurnForEachCall();
        aTurnForEachWayBack();
        noTurnForOtherWays();
        theLastTurn();
        changesOfATrapStay();
        sixtyCalls();
        sixtyCallsByTable();
        sixtyCallsByLoad();
        theTurnIsLookedAtFirst();
        callsThatAreOver();
        whatAnObjectTakes();
        justTheRoom();
        whatItIsMadeOf();
        whatAGlobalRefersTo();
        whatALocalRefersTo();
        whatTheStackRefersTo();
        whatOtherCallsReferTo();
        whatObjectsReferTo();
        whatLivedBefore();
        whatNothingRefersTo();
        theRoomBehindATrap();
        theRoomBehindALoad();
        manyOfTheLeast();
        twoThousandObjects();
        numbersReferToNothing();
        Support.end();
    }

    private static void due(String what, long got, long want) {
        Support.due(what, got, want);
    }

    private static int[] b(Object... parts) {
        return Support.b(parts);
    }

    /* "A function's locals are 0, or null, at first", in each call anew. */
    private static void localsAtFirst() {
        Support.Mod mod = new Support.Mod();
        mod.type(0x5f, 0);
        int type = mod.type(0x60, 0, 5, I32, I64, I32, I32, I32);
        int[] set = b(0x41, 7, 0x21, 0, 0x42, 7, 0x21, 1, 0x41, 0, 0xfb, 28, 0x21, 2, 0xfb, 1, 0, 0x21, 3, 0x41, 0, 0xfb, 28, 0x21, 4);
        mod.fnWith(type, b(5, 1, I32, 1, I64, 1, 0x6d, 1, 0x63, 0, 1, 0x6c), 0x20, 0, 0x20, 1, 0x20, 2, 0xd1, 0x20, 3, 0xd1, 0x20, 4, 0xd1, set);
        mod.fn(type, 0x10, 0, Support.many(5, 0x1a), 0x10, 0);
        Support.House house = mod.house();
        long[] want = {0, 0, 1, 1, 1};
        for (int round = 0; round < 3; round++) {
            due("a call", house.call('a' + round % 2, 5), 0);
            for (int k = 0; k < want.length; k++) {
                due("local " + k, house.x.result(k), want[k]);
            }
        }
        Support.Mod many = new Support.Mod();
        many.fnWith(many.type(0x60, 0, 1, I64), b(1, Support.u(200), I64), 0x20, Support.u(199), 0x42, 5, 0x21, Support.u(199), 0x42, 5, 0x21, 0, 0x20, 0, 0x7c);
        Support.House wide = many.house();
        due("the 200th local", wide.value(), 5);
        due("again", wide.value(), 5);
    }

    private static Support.Mod callers() {
        Support.Mod mod = new Support.Mod().table(0, 1);
        int type = mod.type(0x60, 0, 0);
        mod.fn(type, 0x10, 1, 0x10, 1, 0x10, 1);
        mod.fn(type, NOTHING);
        mod.fn(type, 0x41, 0, 0x11, 0, 0, 0x41, 0, 0x11, 0, 0);
        mod.fn(type, 0x10, 0, 0x10, 2);
        return mod.element(0, 1);
    }

    /* "Each call of a function takes 1 TURN". */
    private static void aTurnForEachCall() {
        int[][] calls = {{'a', 4}, {'b', 1}, {'c', 3}, {'d', 8}};
        Support.House house = callers().house();
        for (int[] call : calls) {
            for (int turns = 0; turns <= 9; turns++) {
                boolean enough = turns >= call[1];
                due((char) call[0] + " with " + turns, house.call(call[0], turns), enough ? 0 : 13);
                due("turns left", house.x.look(6), enough ? turns - call[1] : 0);
            }
        }
    }

    private static final int[] AGAIN = Support.b(0x23, 0, 0x41, 1, 0x6a, 0x24, 0);

    /** Loops that go back as long as the global is below the parameter, by each of the ways. */
    private static Support.Mod loops() {
        Support.Mod mod = new Support.Mod();
        int type = mod.type(0x60, 1, I32, 0);
        int anything = mod.type(0x60, 1, 0x6d, 0);
        int[] less = b(0x23, 0, 0x20, 0, 0x48);
        int[] zero = b(0x41, 0, 0x24, 0);
        mod.global(I, 1, 0x41, 0);
        mod.fn(type, zero, 0x03, 0x40, AGAIN, less, 0x04, 0x40, 0x0c, 1, 0x0b, 0x0b);
        mod.fn(type, zero, 0x03, 0x40, AGAIN, less, 0x0d, 0, 0x0b);
        mod.fn(type, zero, 0x02, 0x40, 0x03, 0x40, AGAIN, less, 0x0e, 1, 1, 0, 0x0b, 0x0b);
        mod.fn(type, zero, 0x02, 0x40, 0x03, 0x40, AGAIN, less, 0x45, 0x0e, 1, 0, 1, 0x0b, 0x0b);
        mod.fn(type, zero, 0x03, 0x40, AGAIN, less, 0x04, 0x6d, 0xd0, 0x6d, 0x05, 0x41, 0, 0xfb, 28, 0x0b, 0xd5, 0, 0x1a, 0x0b);
        mod.fn(type, zero, 0xd0, 0x6d, 0x03, anything, 0x1a, AGAIN, less, 0x04, 0x6d, 0x41, 0, 0xfb, 28, 0x05, 0xd0, 0x6d, 0x0b, 0xd6, 0, 0x0b);
        mod.export('g', 3, 0);
        return mod;
    }

    /* "each way to a loop's beginning by 0x0c to 0x0e, 0xd5, 0xd6 one: without one left: trap 13". */
    private static void aTurnForEachWayBack() {
        for (int k = 0; k < 6; k++) {
            Support.House house = loops().house();
            for (int round : new int[] {1, 2, 3, 10}) {
                for (int turns = 0; turns <= 11; turns++) {
                    boolean enough = turns >= round;
                    due(round + " rounds of " + k + " with " + turns, house.call('a' + k, turns, round), enough ? 0 : 13);
                    due("turns left", house.x.look(6), enough ? turns - round : 0);
                    if (turns > 0) {
                        due("rounds that were", house.x.global(6), enough ? round : turns);
                    }
                }
            }
        }
    }

    private static void noTurnForOtherWays() {
        int[][] free = {b(0x03, 0x40, 0x0b), b(0x02, 0x40, 0x0c, 0, 0x0b), b(0x03, 0x40, 0x41, 0, 0x0d, 0, 0x0b), b(0x03, 0x40, 0x0c, 1, 0x0b), b(0x02, 0x40, 0x03, 0x40, 0x41, 0, 0x0e, 1, 1, 0, 0x0b, 0x0b),
            b(0x03, 0x40, 0x41, 0, 0xfb, 28, 0xd5, 0, 0x1a, 0x0b), b(0x02, 0x6d, 0x41, 0, 0xfb, 28, 0xd6, 0, 0x00, 0x0b, 0x1a), b(0x41, 1, 0x04, 0x40, 0x0c, 0, 0x0b), b(0x03, 0x40, 0x02, 0x40, 0x0c, 0, 0x0b, 0x0b),
            b(0x02, 0x40, 0xd0, 0x6d, 0xd5, 0, 0x1a, 0x0b), b(0x03, 0x40, 0x0f, 0x0b)};
        for (int k = 0; k < free.length; k++) {
            Support.House house = Support.one(NOTHING, NOTHING, free[k]).house();
            due("without a turn " + k, house.call('a', 1), 0);
            due("none was left " + k, house.x.look(6), 0);
        }
    }

    /* "without one left": the trap is told as the last one has gone, and nothing behind it happens. */
    private static void theLastTurn() {
        Support.Mod mod = new Support.Mod();
        int type = mod.type(0x60, 0, 1, I32);
        mod.global(I, 1, 0x41, 0);
        mod.fn(type, AGAIN, 0x10, 1, 0x1a, AGAIN, 0x23, 0);
        mod.fn(type, AGAIN, 0x23, 0);
        mod.export('g', 3, 0);
        Support.House house = mod.house();
        due("no turn", house.call('a', 0), 13);
        due("nothing happened", house.x.global(2), 0);
        due("one turn", house.call('a', 1), 13);
        due("what was before the call", house.x.global(2), 1);
        due("no results", house.x.look(5), 0);
        due("two turns", house.call('a', 2), 0);
        due("all of it", house.x.result(0), 4);
    }

    /* "What a call that traps has changed stays." */
    private static void changesOfATrapStay() {
        int[][] traps = {b(0x00), b(0x41, 0, 0x28, 0, Support.u(4093), 0x1a), b(0x41, 0, 0x41, 0, 0x6d, 0x1a), b(Support.i32(Integer.MIN_VALUE), Support.i32(-1), 0x6d, 0x1a), b(0x41, 9, 0x11, 1, 0), b(0x41, 0, 0x11, 1, 0),
            b(0x41, 1, 0x11, 1, 0), b(0xd0, 0, 0xd4, 0x1a), b(0xd0, 0x6d, 0xfb, 22, 0, 0x1a), b(0x41, 0, 0xfb, 7, 0, 0x41, 0, 0xfb, 11, 0, 0x1a), b(Support.i32(2000), 0xfb, 7, 0, 0x1a), b(0x10, 1), b(0x03, 0x40, 0x0c, 0, 0x0b)};
        for (int k = 0; k < traps.length; k++) {
            Support.Mod mod = new Support.Mod().memory(1, 1, 2).table(0, 2);
            mod.type(0x5e, I32, 1);
            mod.type(0x60, 0, 0);
            mod.global(I, 1, 0x41, 0);
            mod.global(b(0x63, 0), 1, 0xd0, 0);
            mod.fn(1, 0x41, 5, 0x24, 0, 0x41, 8, 0x41, 9, 0x3a, 0, 0, 0x41, 3, 0xfb, 7, 0, 0x24, 1, traps[k], 0x41, 6, 0x24, 0);
            mod.fn(1, 0x10, 1);
            mod.fn(mod.type(0x60, 0, 1, I32), 0x41, 0);
            mod.element(1, 2);
            mod.export('g', 3, 0);
            Support.House house = mod.house();
            due("trap " + (k + 1), house.call('a', 1000), k + 1);
            due("the global stays", house.x.global(3), 5);
            due("the byte stays", house.x.at(8), 9);
            due("the object stays", house.x.look(7), 4);
            due("no results", house.x.look(5), 0);
            due("it can be called again", house.call('c', 1), 0);
        }
    }

    private static Support.Mod deep() {
        Support.Mod mod = new Support.Mod().table(0, 1).element(0, 1);
        int type = mod.type(0x60, 1, I32, 1, I32);
        mod.fn(type, 0x20, 0, 0x04, I32, 0x20, 0, 0x41, 1, 0x6b, 0x10, 0, 0x41, 1, 0x6a, 0x05, 0x41, 1, 0x0b);
        mod.fn(type, 0x20, 0, 0x04, I32, 0x20, 0, 0x41, 1, 0x6b, 0x41, 0, 0x11, 0, 0, 0x41, 1, 0x6a, 0x05, 0x41, 1, 0x0b);
        mod.fn(type, 0x20, 0, 0x10, 0, 0x20, 0, 0x10, 1, 0x6a);
        return mod;
    }

    /* "More than 60 calls within one another (that from outside is one): trap 12". */
    private static void sixtyCalls() {
        Support.House house = deep().house();
        for (int more : new int[] {0, 1, 58, 59, 60, 61, 100}) {
            boolean fits = more <= 59;
            due(more + 1 + " calls", house.call('a', 1000, more), fits ? 0 : 12);
            due("turns left", house.x.look(6), fits ? 999 - more : 939);
            if (fits) {
                due("so many", house.x.result(0), more + 1);
            }
        }
    }

    private static void sixtyCallsByTable() {
        Support.House house = deep().house();
        due("60 calls", house.call('b', 1000, 59), 0);
        due("so many", house.x.result(0), 60);
        due("61 calls", house.call('b', 1000, 60), 12);
        due("turns left", house.x.look(6), 939);
    }

    private static void sixtyCallsByLoad() {
        for (int more : new int[] {58, 59, 60}) {
            Support.Mod mod = deep();
            mod.fn(mod.type(0x60, 0, 0), Support.i32(more - 1), 0x10, 0, 0x1a);
            mod.start = b(3);
            due(more + 1 + " calls by load", mod.loaded(), more <= 59 ? 0 : 12);
        }
    }

    /* "trap 12 (looked at behind the turn)". */
    private static void theTurnIsLookedAtFirst() {
        for (int name : new int[] {'a', 'b'}) {
            Support.House house = deep().house();
            due("60 turns for 61 calls", house.call(name, 60, 60), 13);
            due("none left", house.x.look(6), 0);
            due("61 turns for 61 calls", house.call(name, 61, 60), 12);
            due("none left either", house.x.look(6), 0);
            due("62 turns for 61 calls", house.call(name, 62, 60), 12);
            due("one left", house.x.look(6), 1);
            due("60 turns for 60 calls", house.call(name, 60, 59), 0);
        }
    }

    /* Calls that are over are not within one another: what counts is those that go on. */
    private static void callsThatAreOver() {
        Support.House house = deep().house();
        due("59 within, twice", house.call('c', 1000, 58), 0);
        due("turns left", house.x.look(6), 1000 - 1 - 59 - 59);
        due("60 within", house.call('c', 1000, 59), 12);
        Support.House many = Support.one(NOTHING, NOTHING, NOTHING).house();
        due("one after the other", many.call('a', 1), 0);
        Support.Mod mod = new Support.Mod();
        int type = mod.type(0x60, 0, 0);
        mod.fn(type, Support.many(200, 0x10, 1));
        mod.fn(type, NOTHING);
        due("200 one behind the other", mod.house().call('a', 201), 0);
    }

    /** Types 0 an array of anything, 1 a structure of three, 2 an array of 8 bits, 3 a structure of none, 4 of 16 i64. */
    private static Support.Mod mod(Object... code) {
        Support.Mod mod = new Support.Mod();
        mod.type(0x5e, 0x6d, 1);
        mod.type(0x5f, 3, 0x6d, 1, I32, 1, 0x78, 1);
        mod.type(0x5e, 0x78, 1);
        mod.type(0x5f, 0);
        mod.type(0x5f, 16, Support.many(16, I64, 1));
        mod.global(b(0x6d), 1, 0xd0, 0x6d);
        mod.global(b(0x63, 0), 1, 0xd0, 0);
        mod.fnWith(mod.type(0x60, 0, 0), b(2, 1, 0x6d, 1, 0x63, 0), code);
        return mod;
    }

    private static int[] array(long n) {
        return b(Support.i32(n), 0xfb, 7, 0);
    }

    private static void lives(String what, int trap, int lives, Object... code) {
        Support.House house = mod(code).house();
        due(what, house.call('a', 100), trap);
        due(what + ": what lives", house.x.look(7), lives);
    }

    private static final int[] KEEP = {0x24, 0};

    /* "An object takes 1 and as many as fields or elements." */
    private static void whatAnObjectTakes() {
        lives("a structure of none", 0, 1, 0xfb, 1, 3, KEEP);
        lives("a told structure of none", 0, 1, 0xfb, 0, 3, KEEP);
        lives("of three", 0, 4, 0xfb, 1, 1, KEEP);
        lives("of 16", 0, 17, 0xfb, 1, 4, KEEP);
        for (int n : new int[] {0, 1, 2, 1000, 1998, 1999}) {
            lives("an array of " + n, 0, n + 1, array(n), KEEP);
            lives("one of 8 bits of " + n, 0, n + 1, Support.i32(n), 0xfb, 7, 2, KEEP);
            lives("one of a value, of " + n, 0, n + 1, 0x41, 1, Support.i32(n), 0xfb, 6, 2, KEEP);
        }
        lives("told elements", 0, 4, 0x41, 1, 0x41, 1, 0x41, 1, 0xfb, 8, 2, 3, KEEP);
        lives("a small one takes none", 0, 0, 0x41, 1, 0xfb, 28, KEEP);
    }

    /* "An object can be made if what lives .. and it take at most ROOM, 2000; else trap 11." */
    private static void justTheRoom() {
        int[][] makes = {b(0xfb, 1, 3), b(0xfb, 0, 3), b(0xfb, 1, 1), b(0xd0, 0x6d, 0x41, 0, 0x41, 0, 0xfb, 0, 1), b(0xfb, 1, 4), b(Support.many(16, 0x42, 0), 0xfb, 0, 4),
            b(0x41, 0, 0xfb, 7, 0), b(0x41, 5, 0xfb, 7, 0), b(0x41, 1, 0x41, 7, 0xfb, 6, 2), b(0x41, 1, 0x41, 0, 0xfb, 6, 2), b(0xfb, 8, 2, 0), b(Support.many(9, 0x41, 0), 0xfb, 8, 2, 9)};
        int[] takes = {1, 1, 4, 4, 17, 17, 1, 6, 8, 1, 1, 10};
        for (int k = 0; k < makes.length; k++) {
            int rest = 2000 - takes[k];
            lives("just fits " + k, 0, rest, array(rest - 1), KEEP, makes[k], 0x1a);
            lives("one too much " + k, 11, rest + 1, array(rest), KEEP, makes[k], 0x1a);
            lives("two of them " + k, 0, rest, array(rest - 1), KEEP, makes[k], 0x1a, makes[k], 0x1a);
        }
        for (long n : new long[] {2000, 2001, 4095, 65536, Integer.MAX_VALUE, Integer.MIN_VALUE, -1}) {
            lives("an array of " + n, 11, 0, array(n), KEEP);
            lives("one of a value, of " + n, 11, 0, 0x41, 1, Support.i32(n), 0xfb, 6, 2, KEEP);
        }
    }

    /* "(the values that it is made of still lie on the stack)". */
    private static void whatItIsMadeOf() {
        lives("a field's value and it", 0, 2000, array(1995), 0x41, 0, 0x41, 0, 0xfb, 0, 1, KEEP);
        lives("a field's value and it, one too much", 11, 0, array(1996), 0x41, 0, 0x41, 0, 0xfb, 0, 1, KEEP);
        lives("an array's value and it", 0, 2000, array(1989), 0x41, 9, 0xfb, 6, 0, KEEP);
        lives("an array's value and it, one too much", 11, 0, array(1990), 0x41, 9, 0xfb, 6, 0, KEEP);
        lives("its value, though there is no element", 0, 1, array(1998), 0x41, 0, 0xfb, 6, 0, KEEP);
        lives("its value, though there is no element, one too much", 11, 0, array(1999), 0x41, 0, 0xfb, 6, 0, KEEP);
        lives("told elements and it", 0, 2000, array(900), array(1095), 0xfb, 8, 0, 2, KEEP);
        lives("told elements and it, one too much", 11, 0, array(900), array(1096), 0xfb, 8, 0, 2, KEEP);
    }

    /* "It LIVES if a global .. refers to it". */
    private static void whatAGlobalRefersTo() {
        lives("a global", 0, 1001, array(1000), KEEP, array(998), 0x1a);
        lives("a global, one too much", 11, 1001, array(1000), KEEP, array(999), 0x1a);
        lives("two globals", 0, 2000, array(999), KEEP, array(999), 0x24, 1);
        lives("two globals, one too much", 11, 1000, array(999), KEEP, array(1000), 0x24, 1);
        lives("a global that is set anew", 0, 2000, array(1999), KEEP, 0xd0, 0x6d, KEEP, array(1999), KEEP);
        lives("a global as the new one is made", 11, 2000, array(1999), KEEP, array(0), KEEP);
        Support.House house = mod(array(1999), KEEP).house();
        due("a call", house.call('a', 5), 0);
        due("the next call has no room", house.call('a', 5), 11);
        due("it lives still", house.x.look(7), 2000);
    }

    /* "a local .. of a call that goes on". */
    private static void whatALocalRefersTo() {
        lives("a local", 0, 0, array(1000), 0x21, 0, array(998), 0x1a);
        lives("a local, one too much", 11, 0, array(1000), 0x21, 0, array(999), 0x1a);
        lives("the other local", 11, 0, array(1000), 0x21, 1, array(999), 0x1a);
        lives("a local that is set anew", 0, 0, array(1999), 0x21, 0, 0xd0, 0x6d, 0x21, 0, array(1999), 0x21, 0);
        lives("a local as the new one is made", 11, 0, array(1999), 0x21, 0, array(0), 0x21, 0);
        lives("by 0x22, a local and the stack", 0, 0, array(999), 0x22, 0, array(999), 0x1a, 0x1a);
        lives("by 0x22, twice it is one", 11, 0, array(999), 0x22, 0, array(1000), 0x1a, 0x1a);
        lives("the stack is empty, the local is not", 11, 0, array(999), 0x22, 0, 0x1a, array(1000), 0x1a);
        Support.Mod mod = mod(array(1000), 0x10, 1);
        mod.fn(mod.type(0x60, 1, 0x6d, 0), array(998), 0x1a, array(999), 0x1a);
        due("a parameter", mod.house().call('a', 5), 11);
        mod = mod(array(1000), 0x10, 1);
        mod.fn(mod.type(0x60, 1, 0x6d, 0), array(998), 0x1a);
        due("a parameter, one less", mod.house().call('a', 5), 0);
        mod = mod(array(1999), 0x10, 1);
        mod.fn(mod.type(0x60, 1, 0x6d, 0), 0xd0, 0x6d, 0x21, 0, array(1999), 0x1a);
        due("a parameter that is set anew", mod.house().call('a', 5), 0);
    }

    /* "or a value on the stack of a call that goes on". */
    private static void whatTheStackRefersTo() {
        lives("the stack", 0, 0, array(1000), array(998), 0x1a, 0x1a);
        lives("the stack, one too much", 11, 0, array(1000), array(999), 0x1a, 0x1a);
        lives("around a block", 11, 0, array(1000), 0x02, 0x40, array(999), 0x1a, 0x0b, 0x1a);
        lives("dropped", 0, 0, array(1999), 0x1a, array(1999), 0x1a);
        lives("gone by 0x0c", 0, 0, 0x02, 0x40, array(1999), 0x0c, 0, 0x0b, array(1999), 0x1a);
        lives("gone by 0x0d", 0, 0, 0x02, 0x40, array(1999), 0x41, 1, 0x0d, 0, 0x1a, 0x0b, array(1999), 0x1a);
        lives("carried by 0x0c", 11, 0, 0x02, 0x6d, array(1999), 0x0c, 0, 0x0b, array(0), 0x1a, 0x1a);
        lives("taken by 0xd1", 0, 0, array(1999), 0xd1, 0x1a, array(1999), 0x1a);
        lives("taken by 0xfb 15", 0, 0, array(1999), 0xfb, 15, 0x1a, array(1999), 0x1a);
        lives("taken by 0xd3", 0, 0, array(999), array(999), 0xd3, 0x1a, array(1999), 0x1a);
        lives("kept by 0xd4", 11, 0, array(1999), 0xd4, array(0), 0x1a, 0x1a);
        lives("kept by 0xfb 23", 11, 0, array(1999), 0xfb, 23, 0x6d, array(0), 0x1a, 0x1a);
        lives("values of a round before", 0, 0, 0x03, 0x40, array(1999), 0x20, 0, 0xd1, 0x04, 0x40, 0x41, 0, 0xfb, 28, 0x21, 0, 0x0c, 1, 0x0b, 0x1a, 0x0b);
    }

    private static void whatOtherCallsReferTo() {
        Object[][] callers = {{array(1000), 0x21, 0, 0x10, 1}, {array(1000), 0x10, 1, 0x1a}, {0x02, 0x40, array(1000), 0x10, 1, 0x1a, 0x0b}};
        for (Object[] caller : callers) {
            for (int n : new int[] {998, 999}) {
                Support.Mod mod = mod(caller);
                mod.fn(5, array(n), 0x1a);
                due("the caller's, and " + n, mod.house().call('a', 5), n == 998 ? 0 : 11);
            }
        }
        for (int n : new int[] {998, 999}) {
            Support.Mod mod = mod(array(500), 0x10, 1, 0x1a);
            mod.fn(5, array(499), 0x10, 2, 0x1a);
            mod.fn(5, array(n), 0x1a);
            due("two callers', and " + n, mod.house().call('a', 5), n == 998 ? 0 : 11);
        }
        Support.Mod over = mod(0x10, 1, 0x10, 1, array(1999), 0x1a);
        over.fnWith(5, b(1, 1, 0x6d), array(1999), 0x21, 0);
        due("a call that is over", over.house().call('a', 5), 0);
        Support.Mod result = mod(0x10, 1, array(998), 0x1a, 0x1a);
        result.fnWith(result.type(0x60, 0, 1, 0x6d), b(1, 1, 0x6d), array(999), 0x21, 0, array(999));
        due("of a call that is over its result lives", result.house().call('a', 5), 0);
        result = mod(0x10, 1, array(1000), 0x1a, 0x1a);
        result.fn(result.type(0x60, 0, 1, 0x6d), array(999));
        due("it does", result.house().call('a', 5), 11);
    }

    /* "or an object that lives does". */
    private static void whatObjectsReferTo() {
        int[] held = b(array(1), 0x22, 1, 0x24, 1, 0x20, 1, 0x41, 0, array(1000), 0xfb, 14, 0, 0xd0, 0, 0x21, 1);
        lives("an element", 0, 1003, held, array(996), 0x1a);
        lives("an element, one too much", 11, 1003, held, array(997), 0x1a);
        int[] let = b(0x23, 1, 0x41, 0, 0xd0, 0x6d, 0xfb, 14, 0);
        lives("an element that is null again", 0, 2, held, let, array(1997), 0x1a);
        int[] filled = b(0x23, 1, 0x41, 0, 0xd0, 0x6d, 0x41, 1, 0xfb, 16, 0);
        lives("an element that is null again by 16", 0, 2, held, filled, array(1997), 0x1a);
        lives("a field", 11, 1005, array(1000), 0x41, 0, 0x41, 0, 0xfb, 0, 1, KEEP, array(995), 0x1a);
        lives("a field, one less", 0, 1005, array(1000), 0x41, 0, 0x41, 0, 0xfb, 0, 1, KEEP, array(994), 0x1a);
        int[] chain = b(0xd0, 0x6d);
        for (int k = 0; k < 90; k++) {
            chain = b(chain, 0x41, 0, 0x41, 0, 0xfb, 0, 1);
        }
        lives("a chain", 0, 360, chain, KEEP, array(1639), 0x1a);
        lives("a chain, one too much", 11, 360, chain, KEEP, array(1640), 0x1a);
        int[] circle = b(array(2), 0x22, 1, 0x41, 0, 0x20, 1, 0xfb, 14, 0, 0x20, 1, 0x41, 1, 0x20, 1, 0xfb, 14, 0);
        lives("a circle", 11, 0, circle, array(1997), 0x1a);
        lives("a circle, one less", 0, 0, circle, array(1996), 0x1a);
        lives("a circle that nothing refers to", 0, 0, circle, 0xd0, 0, 0x21, 1, array(1999), 0x1a);
    }

    /* What lived when it was looked at, and does no more. */
    private static void whatLivedBefore() {
        Support.Mod mod = mod(array(10), 0x41, 1, 0x41, 2, 0xfb, 0, 1, KEEP);
        mod.fn(5, 0xd0, 0x6d, KEEP);
        mod.fn(5, 0x23, 0, 0xfb, 22, 1, 0xfb, 2, 1, 0, KEEP);
        Support.House house = mod.house();
        for (int k = 0; k < 3; k++) {
            due("two objects", house.call('a', 5), 0);
            due("both live", house.x.look(7), 15);
            due("one of them", house.call('c', 5), 0);
            due("one lives", house.x.look(7), 11);
            due("two objects again", house.call('a', 5), 0);
            due("both live again", house.x.look(7), 15);
            due("none", house.call('b', 5), 0);
            due("none lives", house.x.look(7), 0);
        }
    }

    private static void whatNothingRefersTo() {
        Support.Mod mod = mod(array(1500), 0x1a);
        mod.fn(mod.type(0x60, 0, 1, 0x6d), array(1999));
        Support.House house = mod.house();
        for (int k = 0; k < 4; k++) {
            due("a result refers to nothing", house.call('b', 5), 0);
            due("it is not null", house.x.result(0), 1);
            due("nothing lives", house.x.look(7), 0);
            due("nor what was dropped", house.call('a', 5), 0);
        }
    }

    /* All calls are over behind a trap, too. */
    private static void theRoomBehindATrap() {
        Support.Mod mod = mod(array(999), 0x21, 0, array(999), 0x10, 1, 0x1a);
        mod.fn(5, 0x00);
        mod.fn(5, array(1999), KEEP);
        Support.House house = mod.house();
        due("a trap", house.call('a', 5), 1);
        due("nothing lives", house.x.look(7), 0);
        due("a trap again", house.call('a', 5), 1);
        due("all the room", house.call('c', 5), 0);
        due("all of it lives", house.x.look(7), 2000);
        due("no room", house.call('a', 5), 11);
        due("it lives still", house.x.look(7), 2000);
    }

    private static void theRoomBehindALoad() {
        Support.Mod mod = mod(array(1999), KEEP);
        Support.House house = mod.house();
        for (int k = 0; k < 5; k++) {
            due("all the room", house.call('a', 5), 0);
            due("lives", house.x.look(7), 2000);
            house.feed(mod.build());
            due("a load", house.x.load(), 0);
            due("nothing lives", house.x.look(7), 0);
        }
        mod.start = b(0);
        house.feed(mod.build());
        due("by the first call", house.x.load(), 0);
        due("lives", house.x.look(7), 2000);
        due("no room", house.call('a', 5), 11);
    }

    /* 2000 objects of none, in the locals of 40 calls within one another; and one more. */
    private static void twoThousandObjects() {
        for (int more = 0; more <= 2; more++) {
            Support.Mod mod = new Support.Mod();
            mod.type(0x5f, 0);
            mod.type(0x5f, 1, 0x6d, 1);
            int type = mod.type(0x60, 1, I32, 0);
            mod.global(b(0x6d), 1, 0xd0, 0x6d);
            int[] fill = {};
            for (int k = 1; k <= 50; k++) {
                fill = b(fill, 0xfb, 1, 0, 0x21, k);
            }
            int[] behind = more == 0 ? NOTHING : b(0xfb, 1, 0, 0x1a);
            mod.fnWith(type, b(1, 50, 0x6d), fill, 0x20, 0, 0x04, 0x40, 0x20, 0, 0x41, 1, 0x6b, 0x10, 0, 0x05, behind, 0x0b);
            mod.fn(type, 0x23, 0, 0xfb, 0, 1, 0x24, 0);
            mod.fn(type, 0xd0, 0x6d, 0x24, 0);
            Support.House house = mod.house();
            for (int round = 0; round < 3; round++) {
                due("2000 and " + more, house.call('a', 100, 39), more == 0 ? 0 : 11);
                due("none of them lives", house.x.look(7), 0);
                due("1950 and some", house.call('a', 100, 38), 0);
            }
            for (int k = 0; k < 25; k++) {
                due("a chain", house.call('b', 1, 0), 0);
            }
            due("of 25 objects of one", house.x.look(7), 50);
            due("1950 beside it", house.call('a', 100, 38), more == 0 ? 0 : 11);
            due("2000 beside it", house.call('a', 100, 39), 11);
            due("the chain lives", house.x.look(7), 50);
            due("let go", house.call('c', 1, 0), 0);
            due("2000 and " + more + " again", house.call('a', 100, 39), more == 0 ? 0 : 11);
            due("one object", house.call('b', 1, 0), 0);
            due("it lives", house.x.look(7), 2);
            house.feed(mod.build());
            due("another load", house.x.load(), 0);
            due("2000 and " + more + " behind it", house.call('a', 100, 39), more == 0 ? 0 : 11);
        }
    }

    /* A number is no reference, whatever it is made by, and wherever it lies. */
    private static void numbersReferToNothing() {
        int[][] ones = {b(0x41, 1), b(0x42, 1), b(0x41, 0, 0x45), b(0x42, 0, 0x50), b(0x41, 2, 0x41, 2, 0x46), b(0x42, 2, 0x42, 2, 0x51), b(0x41, 2, 0x41, 1, 0x6b), b(0x42, 2, 0x42, 1, 0x7d), b(0x41, 1, 0x69), b(0x42, 1, 0x7b),
            b(0x42, 1, 0xa7), b(0x41, 1, 0xac), b(0x41, 1, 0xc0), b(0xd0, 0x6d, 0xd1), b(0xd0, 0x6d, 0xd0, 0x6d, 0xd3), b(0xd0, 0x6d, 0xfb, 21, 0x6d), b(0x41, 1, 0xfb, 28, 0xfb, 29), b(0x41, 1, 0x41, 5, 0x41, 0, 0x1b, 0x41, 4, 0x6b)};
        for (int k = 0; k < ones.length; k++) {
            lives("a number on the stack " + k, 0, 2000, array(1500), 0x1a, ones[k], array(1999), KEEP, 0x1a);
        }
        Support.Mod mod = mod(array(1500), 0x1a, array(100), 0x1a, 0x41, 1, 0x24, 2, 0x41, 1, 0x21, 2, 0x41, 1, 0x41, 2, 0xfb, 8, 6, 2, 0x24, 3, array(1996), KEEP);
        mod.type(0x5e, I32, 1);
        mod.global(I, 1, 0x41, 1);
        mod.global(b(0x6d), 1, 0xd0, 0x6d);
        mod.bodies.set(0, withNumberLocal(mod.bodies.get(0)));
        Support.House house = mod.house();
        due("numbers in a global, a local, an array", house.call('a', 9), 0);
        due("what lives", house.x.look(7), 2000);
    }

    /* The body's two groups of locals, and one of an i32 behind them. */
    private static int[] withNumberLocal(int[] body) {
        int from = body[0] >= 0x80 ? 2 : 1;
        int[] rest = java.util.Arrays.copyOfRange(body, from + 6, body.length);
        int[] made = b(3, 1, 0x6d, 1, 0x63, 0, 1, I32, rest);
        return b(Support.u(made.length), made);
    }

    /* 999 objects of none in an array, and many more one after the other. */
    private static void manyOfTheLeast() {
        Support.Mod mod = new Support.Mod();
        mod.type(0x5f, 0);
        mod.type(0x5e, 0x6d, 1);
        mod.global(b(0x63, 1), 1, 0xd0, 1);
        int[] loop = b(0x03, 0x40, 0x23, 0, 0x20, 1, 0xfb, 1, 0, 0xfb, 14, 1, 0x20, 1, 0x41, 1, 0x6a, 0x22, 1, 0x20, 0, 0x49, 0x0d, 0, 0x0b);
        mod.fnWith(mod.type(0x60, 1, I32, 0), b(1, 1, I32), Support.i32(999), 0xfb, 7, 1, 0x24, 0, loop);
        mod.fnWith(2, b(1, 1, I32), 0x03, 0x40, 0xfb, 1, 0, 0x1a, 0x20, 1, 0x41, 1, 0x6a, 0x22, 1, 0x20, 0, 0x49, 0x0d, 0, 0x0b);
        Support.House house = mod.house();
        due("999 of them", house.call('a', 5000, 999), 0);
        due("they live", house.x.look(7), 1999);
        due("one more at a time", house.call('b', 9000, 5000), 0);
        due("they live still", house.x.look(7), 1999);
        Support.House full = mod.house();
        due("one too many has no place", full.call('a', 5000, 1000), 10);
    }
}

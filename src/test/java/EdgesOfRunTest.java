/** The boundary cases of promises 3 and 5 in what runs: wrap-arounds, traps 1 to 10, an instance as it comes to be. */
public final class EdgesOfRunTest {
    private static final int I32 = Support.I32;
    private static final int I64 = Support.I64;
    private static final int[] NOTHING = {};
    private static final int[] I = {I32};
    private static final int[] L = {I64};
    private static final long MIN = Integer.MIN_VALUE;
    private static final long MAX = Integer.MAX_VALUE;
    private static final long TRAP = Support.TRAPPED;
    private static final int[] NUMBERS = {0, 1, 2, 3, 7, 31, 32, 33, 63, 64, 127, 128, 255, 256, 0x7fff, 0x8000, 0xffff, 0x10000,
        Integer.MAX_VALUE - 1, Integer.MAX_VALUE, Integer.MIN_VALUE, Integer.MIN_VALUE + 1, -1, -2, -3, -7, -31, -32, -33, -64, -128, -129, -32768, -32769};
    private static final long[] WIDE_NUMBERS = {0, 1, 2, 3, 63, 64, 65, 127, 128, 0x8000L, MAX, 0x80000000L, 0xffffffffL, 0x100000000L, 0x100000001L,
        0x4000000000000000L, Long.MAX_VALUE - 1, Long.MAX_VALUE, Long.MIN_VALUE, Long.MIN_VALUE + 1, -1, -2, -63, -64, -65, MIN, MIN - 1, -0x100000000L};

    public static void main(String[] args) {
        numbersOf32();
        numbersOf64();
        countsOfBits();
        conversions();
        whatIsNotZero();
        waysByANumber();
        choices();
        table();
        tableTrapsAndTurns();
        loads();
        stores();
        memoryOfNoPages();
        memoryOf16Pages();
        morePages();
        newPagesAreZeros();
        waysOnNull();
        waysOnNullWithValues();
        sameReferences();
        nullTraps();
        fieldsOfBits();
        elementsOfBits();
        arraysMade();
        elementBounds();
        elementsSet();
        nullLooksAheadOfOutside();
        casts();
        smallOnes();
        elementsComeToTheirPlaces();
        dataComeToTheirPlaces();
        afterATrapTheInstanceStays();
        theFirstCall();
        sixtyFourOfAll();
        Support.end();
    }

    private static void due(String what, long got, long want) {
        Support.due(what, got, want);
    }

    private static int[] b(Object... parts) {
        return Support.b(parts);
    }

    private static long run(int[] results, Object... code) {
        return Support.one(NOTHING, results, code).house().value();
    }

    /** A house with one function for each of the instructions, of the two given types. */
    private static Support.House houseOf(int from, int to, int first, int count) {
        Support.Mod mod = new Support.Mod();
        int type = mod.type(0x60, 2, from, from, 1, to);
        for (int k = 0; k < count; k++) {
            mod.fn(type, 0x20, 0, 0x20, 1, first + k);
        }
        return mod.house();
    }

    private static long said(Support.House house, int function, long a, long c) {
        int trap = house.call('a' + function, 1, a, c);
        return trap == 0 ? house.x.result(0) : TRAP + trap;
    }

    /* "0x46 .. 0x4f of two i32", "0x6a .. 0x78": with Java's own numbers as what is due. */
    private static void numbersOf32() {
        for (int op = 0; op < 15; op++) {
            for (int a : NUMBERS) {
                Support.House house = houseOf(I32, I32, 0x6a + op, 1);
                for (int c : NUMBERS) {
                    due(op + " of " + a + ", " + c, said(house, 0, a, c), answer32(op, a, c));
                }
            }
        }
        for (int op = 0; op < 10; op++) {
            for (int a : NUMBERS) {
                Support.House house = houseOf(I32, I32, 0x46 + op, 1);
                for (int c : NUMBERS) {
                    due("relation " + op + " of " + a + ", " + c, said(house, 0, a, c), relation(op, a == c, a < c, Integer.compareUnsigned(a, c)));
                }
            }
        }
    }

    /* Of two numbers that are the same or not, less or not, and how they lie as unsigned ones. */
    private static long relation(int op, boolean same, boolean less, int order) {
        boolean[] holds = {same, !same, less, order < 0, !same && !less, order > 0, same || less, order <= 0, !less, order >= 0};
        return holds[op] ? 1 : 0;
    }

    private static long answer32(int op, int a, int c) {
        if (op >= 3 && op <= 6 && c == 0) {
            return TRAP + 3;
        }
        if (op == 3 && a == MIN && c == -1) {
            return TRAP + 4;
        }
        return switch (op) {
            case 0 -> a + c;
            case 1 -> a - c;
            case 2 -> a * c;
            case 3 -> a / c;
            case 4 -> Integer.divideUnsigned(a, c);
            case 5 -> a % c;
            case 6 -> Integer.remainderUnsigned(a, c);
            case 7 -> a & c;
            case 8 -> a | c;
            case 9 -> a ^ c;
            case 10 -> a << (c & 31);
            case 11 -> a >> (c & 31);
            case 12 -> a >>> (c & 31);
            case 13 -> Integer.rotateLeft(a, c & 31);
            default -> Integer.rotateRight(a, c & 31);
        };
    }

    /* "0x51 .. 0x5a of i64", "0x79 .. 0x8a: i64 likewise (6 bits)". */
    private static void numbersOf64() {
        for (int op = 0; op < 15; op++) {
            for (long a : WIDE_NUMBERS) {
                Support.House house = houseOf(I64, I64, 0x7c + op, 1);
                for (long c : WIDE_NUMBERS) {
                    due(op + " of i64 " + a + ", " + c, said(house, 0, a, c), answer64(op, a, c));
                }
            }
        }
        for (int op = 0; op < 10; op++) {
            for (long a : WIDE_NUMBERS) {
                Support.House house = houseOf(I64, I32, 0x51 + op, 1);
                for (long c : WIDE_NUMBERS) {
                    due("relation " + op + " of i64 " + a + ", " + c, said(house, 0, a, c), relation(op, a == c, a < c, Long.compareUnsigned(a, c)));
                }
            }
        }
    }

    private static long answer64(int op, long a, long c) {
        if (op >= 3 && op <= 6 && c == 0) {
            return TRAP + 3;
        }
        if (op == 3 && a == Long.MIN_VALUE && c == -1) {
            return TRAP + 4;
        }
        return switch (op) {
            case 0 -> a + c;
            case 1 -> a - c;
            case 2 -> a * c;
            case 3 -> a / c;
            case 4 -> Long.divideUnsigned(a, c);
            case 5 -> a % c;
            case 6 -> Long.remainderUnsigned(a, c);
            case 7 -> a & c;
            case 8 -> a | c;
            case 9 -> a ^ c;
            case 10 -> a << (c & 63);
            case 11 -> a >> (c & 63);
            case 12 -> a >>> (c & 63);
            case 13 -> Long.rotateLeft(a, (int) (c & 63));
            default -> Long.rotateRight(a, (int) (c & 63));
        };
    }

    /* "leading 0 bits, ending 0 bits, 1 bits": of each single bit, of all, and of none. */
    private static void countsOfBits() {
        Support.House narrow = Support.one(I, b(I32, I32, I32, I32), 0x20, 0, 0x67, 0x20, 0, 0x68, 0x20, 0, 0x69, 0x20, 0, 0x45).house();
        for (int bit = -1; bit <= 32; bit++) {
            int a = bit < 0 ? 0 : bit == 32 ? -1 : 1 << bit;
            dueResults(narrow, a, Integer.numberOfLeadingZeros(a), Integer.numberOfTrailingZeros(a), Integer.bitCount(a), a == 0 ? 1 : 0);
        }
        Support.House wide = Support.one(L, b(I64, I64, I64, I32), 0x20, 0, 0x79, 0x20, 0, 0x7a, 0x20, 0, 0x7b, 0x20, 0, 0x50).house();
        for (int bit = -1; bit <= 64; bit++) {
            long a = bit < 0 ? 0 : bit == 64 ? -1 : 1L << bit;
            dueResults(wide, a, Long.numberOfLeadingZeros(a), Long.numberOfTrailingZeros(a), Long.bitCount(a), a == 0 ? 1 : 0);
        }
    }

    private static void dueResults(Support.House house, long a, long... want) {
        due("a call of " + a, house.call('a', 1, a), 0);
        for (int k = 0; k < want.length; k++) {
            due("result " + k + " of " + a, house.x.result(k), want[k]);
        }
    }

    /* "i64's lowest 32 bits", "i32 to i64 signed, unsigned", "i32 of its lowest 8, 16 bits signed; .. i64 of 8, 16, 32". */
    private static void conversions() {
        Support.House narrow = Support.one(I, b(I64, I64, I32, I32), 0x20, 0, 0xac, 0x20, 0, 0xad, 0x20, 0, 0xc0, 0x20, 0, 0xc1).house();
        for (int a : NUMBERS) {
            dueResults(narrow, a, a, a & 0xffffffffL, (byte) a, (short) a);
        }
        Support.House wide = Support.one(L, b(I32, I64, I64, I64), 0x20, 0, 0xa7, 0x20, 0, 0xc2, 0x20, 0, 0xc3, 0x20, 0, 0xc4).house();
        for (long a : WIDE_NUMBERS) {
            dueResults(wide, a, (int) a, (byte) a, (short) a, (int) a);
        }
        for (int a : NUMBERS) {
            dueResults(wide, a, a, (byte) a, (short) a, a);
        }
    }

    /* "(i32; if not 0)", "the same if an i32 is not 0". */
    private static void whatIsNotZero() {
        Support.House house = Support.one(I, b(I32, I32, I32), 0x20, 0, 0x04, I32, 0x41, 1, 0x05, 0x41, 2, 0x0b,
                0x02, I32, 0x41, 1, 0x20, 0, 0x0d, 0, 0x1a, 0x41, 2, 0x0b,
                0x41, 1, 0x41, 2, 0x20, 0, 0x1b).house();
        for (int a : NUMBERS) {
            int want = a != 0 ? 1 : 2;
            dueResults(house, a, want, want, want);
        }
        dueResults(house, 0x100000000L, 2, 2, 2);
    }

    /* "an i32 as an unsigned number tells which (the last one if there is none)". */
    private static void waysByANumber() {
        for (int count : new int[] {0, 1, 2, 5, 64}) {
            int[] ways = new int[count + 1];
            for (int k = 0; k <= count; k++) {
                ways[k] = k;
            }
            int[] code = b(Support.many(count + 1, 0x02, 0x40), 0x20, 0, 0x0e, count, ways);
            for (int k = 0; k <= count; k++) {
                code = b(code, 0x0b, Support.i32(100 + k), 0x0f);
            }
            Support.House house = Support.one(I, I, code).house();
            for (long a : new long[] {0, 1, count - 1, count, count + 1, 127, 128, MAX, MIN, MIN + 1, -1, -2, -count}) {
                long which = Math.min(a & 0xffffffffL, count);
                due("way " + a + " of " + count, house.value(a), 100 + which);
            }
        }
        int[] last = b(0x02, I32, 0x02, I32, 0x41, 5, 0x20, 0, 0x0e, 2, 0, 1, 0, 0x0b, 0x41, 50, 0x6a, 0x0b);
        Support.House house = Support.one(I, I, last).house();
        long[] want = {55, 5, 55, 55};
        for (int k = 0; k < want.length; k++) {
            due("with a value, " + k, house.value(k), want[k]);
        }
    }

    /* "a, b, i32: a if it is not 0, else b": and what lies below stays. */
    private static void choices() {
        for (int k : new int[] {0, 1, -1, Integer.MIN_VALUE}) {
            due("with a value below", run(I, Support.i32(40), 0x41, 1, 0x41, 2, Support.i32(k), 0x1b, 0x6a), k != 0 ? 41 : 42);
            due("of i64", run(L, Support.i64(40), Support.i64(Long.MIN_VALUE), Support.i64(Long.MAX_VALUE), Support.i32(k), 0x1b, 0x7c), k != 0 ? Long.MIN_VALUE + 40 : Long.MIN_VALUE + 39);
        }
    }

    private static Support.Mod tableOf(int places) {
        Support.Mod mod = new Support.Mod().table(0, places);
        int type = mod.type(0x60, 1, I32, 1, I32);
        int same = mod.type(0x60, 1, I32, 1, I32);
        int other = mod.type(0x60, 0, 1, I32);
        mod.fn(type, 0x20, 0, 0x20, 0, 0x11, same, 0);
        mod.fn(same, 0x20, 0, Support.i32(1000), 0x6a);
        mod.fn(other, 0x41, 1);
        return mod;
    }

    /* "an i32 as an unsigned number tells which of the table: trap 5 outside of it; trap 6 if nothing is there, 7 if its type is not the same". */
    private static void table() {
        for (int places : new int[] {0, 1, 2, 63, 64}) {
            Support.Mod mod = tableOf(places);
            if (places > 0) {
                mod.element(places - 1, 1);
            }
            Support.House house = mod.house();
            due("loaded", house.loaded, 0);
            for (long at : new long[] {places, places + 1, 64, 65, 255, MAX, MIN, MIN + 1, -1, -2}) {
                due("place " + at + " of " + places, house.value(at), TRAP + 5);
            }
            if (places > 0) {
                due("the last place", house.value(places - 1), 999 + places);
            }
            if (places > 1) {
                due("nothing there", house.value(0), TRAP + 6);
                due("nothing before the last", house.value(places - 2), TRAP + 6);
            }
        }
        Support.House others = tableOf(3).element(0, 2, 0, 1).house();
        due("another type", others.value(0), TRAP + 7);
        due("the same", others.value(2), 1002);
        Support.House told = new Support.House(withMost(tableOf(1)));
        due("a table does not grow to its most", told.value(1), TRAP + 5);
    }

    private static int[] withMost(Support.Mod mod) {
        mod.tables.set(0, b(0x70, 1, 1, 60));
        return mod.build();
    }

    /* The traps of the table come ahead of the turn, the turn ahead of the depth; a value below is not touched. */
    private static void tableTrapsAndTurns() {
        Support.House house = tableOf(2).element(0, 2).house();
        due("7 with no turn left", house.call('a', 1, 0), 7);
        due("6 with no turn left", house.call('a', 1, 1), 6);
        due("5 with no turn left", house.call('a', 1, 2), 5);
        Support.House good = tableOf(2).element(0, 1).house();
        due("no turn left", good.call('a', 1, 0), 13);
        due("one turn left", good.call('a', 2, 0), 0);
        due("it was taken", good.x.look(6), 0);
    }

    private static final int[] LOADS = {0x28, 0x29, 0x2c, 0x2d, 0x2e, 0x2f, 0x30, 0x31, 0x32, 0x33, 0x34, 0x35};
    private static final int[] LOADED = {4, 8, 1, 1, 2, 2, 1, 1, 2, 2, 4, 4};
    private static final int[] STORES = {0x36, 0x37, 0x3a, 0x3b, 0x3c, 0x3d, 0x3e};
    private static final int[] STORED = {4, 8, 1, 2, 1, 2, 4};

    private static boolean isWide(int op) {
        return op == 0x29 || op >= 0x30 && op <= 0x35 || op == 0x37 || op >= 0x3c;
    }

    private static long loaded(int op, long bits) {
        return switch (op) {
            case 0x28, 0x34 -> (int) bits;
            case 0x29 -> bits;
            case 0x2c, 0x30 -> (byte) bits;
            case 0x2d, 0x31 -> bits & 0xff;
            case 0x2e, 0x32 -> (short) bits;
            case 0x2f, 0x33 -> bits & 0xffff;
            default -> bits & 0xffffffffL;
        };
    }

    /* "loads from i32 address as an unsigned number and offset", "Trap 2 if a byte of it is outside of the memory". */
    private static void loads() {
        int[] low = {0x7f, 0x7f, 0x7f, 0x7f, 0x7f, 0x7f, 0x7f, 0x7f};
        int[] high = {0x80, 0x81, 0x82, 0x83, 0x84, 0x85, 0x86, 0x87};
        for (int k = 0; k < LOADS.length; k++) {
            Support.Mod mod = new Support.Mod().memory(0, 1).data(0, low).data(4088, high).data(16, Support.many(8, 0xff));
            int type = mod.type(0x60, 1, I32, 1, isWide(LOADS[k]) ? I64 : I32);
            mod.fn(type, 0x20, 0, LOADS[k], 0, 0);
            mod.fn(type, 0x20, 0, LOADS[k], 0, Support.u(4096 - LOADED[k]));
            mod.fn(type, 0x20, 0, LOADS[k], 0, Support.u(4097 - LOADED[k]));
            mod.fn(type, 0x20, 0, LOADS[k], 0, Support.u(0xffffffffL));
            mod.fn(type, 0x20, 0, LOADS[k], 0, 0x10);
            Support.House house = mod.house();
            due("the first", house.value(0), loaded(LOADS[k], 0x7f7f7f7f7f7f7f7fL));
            due("all bits", house.value(16), loaded(LOADS[k], -1));
            long bits = 0x8786858483828180L >>> 8 * (8 - LOADED[k]);
            due("the last", house.value(4096 - LOADED[k]), loaded(LOADS[k], bits));
            for (int over = 1; over <= LOADED[k]; over++) {
                due("over the end by " + over, house.value(4096 - LOADED[k] + over), TRAP + 2);
            }
            for (long at : new long[] {-1, -2, -LOADED[k], MIN, MAX, 65536, 65535}) {
                due("at " + at, house.value(at), TRAP + 2);
            }
            due("by the offset, the last", house.call('b', 1, 0), 0);
            due("its value", house.x.result(0), loaded(LOADS[k], bits));
            due("by the offset, one more", house.call('b', 1, 1), 2);
            due("it does not come round", house.call('b', 1, -1), 2);
            due("too great an offset", house.call('c', 1, 0), 2);
            due("too great an offset does not come round", house.call('c', 1, -1), 2);
            due("the greatest offset", house.call('d', 1, 0), 2);
            due("the greatest offset and 1", house.call('d', 1, 1), 2);
            due("the greatest of both", house.call('d', 1, -1), 2);
            due("an offset and an address that come round", house.call('e', 1, -16), 2);
        }
    }

    /* "stores of address and value: .. lowest bits. Trap 2 if a byte of it is outside of the memory." */
    private static void stores() {
        for (int k = 0; k < STORES.length; k++) {
            Support.Mod mod = new Support.Mod().memory(0, 1);
            int type = mod.type(0x60, 2, I32, isWide(STORES[k]) ? I64 : I32, 0);
            mod.fn(type, 0x20, 0, 0x20, 1, STORES[k], 0, 0);
            mod.fn(type, 0x20, 0, 0x20, 1, STORES[k], 0, Support.u(4096 - STORED[k]));
            mod.fn(type, 0x20, 0, 0x20, 1, STORES[k], 0, Support.u(0xffffffffL));
            Support.House house = mod.house();
            long value = 0x8877665544332211L;
            for (int over = 1; over <= STORED[k]; over++) {
                due("over the end by " + over, house.call('a', 1, 4096 - STORED[k] + over, value), 2);
            }
            for (int at = 4080; at < 4096; at++) {
                due("nothing of it is there", house.x.at(at), 0);
            }
            due("the greatest offset and 1", house.call('c', 1, 1, value), 2);
            due("far off", house.call('a', 1, -1, value), 2);
            due("nothing at 0", house.x.at(0), 0);
            due("the last", house.call('b', 1, 0, value), 0);
            for (int n = 0; n < 8; n++) {
                int place = 4096 - STORED[k] + n;
                if (place < 4096) {
                    due("byte " + n, house.x.at(place), 0x11 * (n + 1));
                }
            }
            due("nothing before it", house.x.at(4095 - STORED[k]), 0);
            due("in the middle", house.call('a', 1, 100, -1), 0);
            due("nothing before", house.x.at(99), 0);
            due("its first", house.x.at(100), 255);
            due("its last", house.x.at(99 + STORED[k]), 255);
            due("nothing behind", house.x.at(100 + STORED[k]), 0);
        }
    }

    private static void memoryOfNoPages() {
        for (int k = 0; k < LOADS.length; k++) {
            Support.Mod mod = new Support.Mod().memory(1, 0, 1);
            mod.fn(mod.type(0x60, 1, I32, 0), 0x20, 0, LOADS[k], 0, 0, 0x1a);
            mod.fn(mod.type(0x60, 0, 0), 0x41, 1, 0x40, 0, 0x1a);
            Support.House house = mod.house();
            due("no page", house.call('a', 1, 0), 2);
            due("a page", house.call('b', 1), 0);
            due("now it is there", house.call('a', 1, 0), 0);
        }
    }

    private static void memoryOf16Pages() {
        Support.Mod mod = new Support.Mod().memory(0, 16);
        int type = mod.type(0x60, 1, I32, 1, I32);
        mod.fn(type, 0x20, 0, 0x2d, 0, 0);
        mod.fn(type, 0x20, 0, 0x28, 0, 0);
        mod.fn(type, 0x20, 0, 0x41, 7, 0x3a, 0, 0, 0x41, 0);
        Support.House house = mod.house();
        due("the last byte is set", house.call('c', 1, 65535), 0);
        due("the last byte", house.value(65535), 7);
        due("the first one beyond", house.value(65536), TRAP + 2);
        due("the last four", house.call('b', 1, 65532), 0);
        due("their value", house.x.result(0), 0x07000000);
        due("three of them", house.call('b', 1, 65533), 2);
        due("beyond is not set", house.call('c', 1, 65536), 2);
    }

    private static Support.Mod growing(Object... limits) {
        Support.Mod mod = new Support.Mod().memory(limits);
        mod.fn(mod.type(0x60, 1, I32, 1, I32), 0x20, 0, 0x40, 0);
        mod.fn(mod.type(0x60, 0, 1, I32), 0x3f, 0);
        return mod;
    }

    private static void dueGrowth(String what, Support.Mod mod, int least, int most) {
        Support.House house = mod.house();
        due(what + ": pages", house.x.look(3), least);
        due(what + ": none more", house.value(0), least);
        for (long more : new long[] {most - least + 1, most + 1, 17, 65536, 1048576, MAX, MIN, MIN + 1, -1, -least}) {
            boolean none = (more & 0xffffffffL) == 0;
            due(what + ": " + more + " more", house.value(more), none ? least : -1);
            due(what + ": pages as before", house.x.look(3), least);
        }
        due(what + ": just all", house.value(most - least), least);
        due(what + ": pages then", house.x.look(3), most);
        due(what + ": by the instruction", house.call('b', 1), 0);
        due(what + ": they are", house.x.result(0), most);
        due(what + ": one more", house.value(1), -1);
        due(what + ": none more then", house.value(0), most);
        Support.dueText(what + ": beyond", Support.said(() -> house.x.at(4096 * most)), Support.NO_SUCH);
        if (most > 0) {
            due(what + ": the last byte", house.x.at(4096 * most - 1), 0);
        }
    }

    /* "so many more (unsigned): the number before, or -1, and nothing, if it would be more than the most"; "its most is 16 if it is not told, or greater". */
    private static void morePages() {
        for (int least : new int[] {0, 1, 15, 16}) {
            dueGrowth("not told", growing(0, least), least, 16);
            dueGrowth("told 16", growing(1, least, 16), least, 16);
            dueGrowth("told 17", growing(1, least, 17), least, 16);
            dueGrowth("told 2^32 - 1", growing(1, least, Support.u(0xffffffffL)), least, 16);
            dueGrowth("told the least", growing(1, least, least), least, least);
        }
        dueGrowth("from 0 to 1", growing(1, 0, 1), 0, 1);
        dueGrowth("from 2 to 15", growing(1, 2, 15), 2, 15);
    }

    private static void newPagesAreZeros() {
        Support.Mod mod = growing(1, 1, 3);
        mod.fn(mod.type(0x60, 1, I32, 0), 0x20, 0, Support.i32(255), 0x3a, 0, 0);
        Support.House house = mod.house();
        house.value(2);
        for (int at = 0; at < 3 * 4096; at += 511) {
            due("set", house.call('c', 1, at), 0);
        }
        due("the very last", house.call('c', 1, 3 * 4096 - 1), 0);
        house.feed(mod.build());
        due("again", house.x.load(), 0);
        due("one page", house.x.look(3), 1);
        for (int at = 0; at < 4096; at += 511) {
            due("0 again", house.x.at(at), 0);
        }
        due("grown again", house.value(2), 1);
        for (int at = 4096 / 511 * 511; at < 3 * 4096; at += 511) {
            due("0 in the new pages", house.x.at(at), 0);
        }
        due("0 at the very last", house.x.at(3 * 4096 - 1), 0);
    }

    /** Types: 0 a structure of 8 bits, 16 bits, i32, i64, anything; 1 to 5 arrays of these; 6 a structure of nothing. */
    private static Support.Mod objects() {
        Support.Mod mod = new Support.Mod();
        mod.type(0x5f, 5, 0x78, 1, 0x77, 1, I32, 1, I64, 1, 0x6d, 1);
        for (int part : new int[] {0x78, 0x77, I32, I64, 0x6d}) {
            mod.type(0x5e, part, 1);
        }
        mod.type(0x5f, 0);
        return mod;
    }

    private static long object(Object... code) {
        Support.Mod mod = objects();
        mod.fnWith(mod.type(0x60, 0, 1, I32), b(7, 1, I32, 1, 0x63, 0, 1, 0x63, 1, 1, 0x63, 2, 1, 0x63, 3, 1, 0x63, 4, 1, 0x63, 5), code);
        return mod.house().value();
    }

    private static final int[][] REFERENCES = {b(0xd0, 0x6d), b(0xd0, 0x6c), b(0xd0, 0), b(0xfb, 1, 0), b(0xfb, 8, 3, 0), b(0x41, 0, 0xfb, 28), b(0x41, 0x7f, 0xfb, 28)};

    /* "0xd5 U: if the top reference is null it goes, and on to the block's end ..; else it stays", "0xd6 U: if it is not null, as 0x0c, with it ..; else it goes". */
    private static void waysOnNull() {
        for (int k = 0; k < REFERENCES.length; k++) {
            boolean isNull = k < 3;
            int[] given = b(REFERENCES[k], 0xfb, 23, 0x6d);
            due("is null, " + k, object(given, 0xd1), isNull ? 1 : 0);
            due("0xd4 of " + k, object(given, 0xd4, 0xd1), isNull ? TRAP + 8 : 0);
            due("0xd5 of " + k, object(0x02, 0x40, given, 0xd5, 0, 0xd1, 0x0f, 0x0b, 0x41, 5), isNull ? 5 : 0);
            due("0xd5 out of two of " + k, object(0x02, 0x40, 0x02, 0x40, given, 0xd5, 1, 0xd1, 0x0f, 0x0b, 0x41, 6, 0x0f, 0x0b, 0x41, 5), isNull ? 5 : 0);
            due("0xd6 of " + k, object(0x02, 0x64, 0x6d, given, 0xd6, 0, 0x41, 5, 0x0f, 0x0b, 0xd1), isNull ? 5 : 0);
            due("0xd6 out of two of " + k, object(0x02, 0x64, 0x6d, 0x02, 0x40, given, 0xd6, 1, 0x0b, 0x41, 5, 0x0f, 0x0b, 0xd1), isNull ? 5 : 0);
            due("0xd5 out of the function of " + k, object(0x41, 7, given, 0xd5, 0, 0x1a, 0x1a, 0x41, 8), isNull ? 7 : 8);
        }
    }

    /* What is taken along, and what lies below and goes. */
    private static void waysOnNullWithValues() {
        for (int k = 0; k < REFERENCES.length; k++) {
            boolean isNull = k < 3;
            int[] given = b(REFERENCES[k], 0xfb, 23, 0x6d);
            due("0xd5 of " + k, object(Support.i32(100), 0x02, I32, 0x42, 9, 0x41, 7, given, 0xd5, 0, 0x1a, 0x21, 0, 0x1a, 0x20, 0, 0x41, 1, 0x6a, 0x0b, 0x6a), isNull ? 107 : 108);
            Support.Mod mod = objects();
            int pair = mod.type(0x60, 0, 2, I32, 0x6d);
            mod.fn(mod.type(0x60, 0, 1, I32), Support.i32(100), 0x02, pair, 0x42, 9, 0x41, 7, given, 0xd6, 0, 0x1a, 0x1a, 0x41, 8, 0xd0, 0x6d, 0x0b, 0xd1, 0x41, 50, 0x6c, 0x6a, 0x6a);
            due("0xd6 of " + k, mod.house().value(), isNull ? 158 : 107);
        }
    }

    /* "whether two references are the same object, the same small number, or both null". */
    private static void sameReferences() {
        for (int first = 0; first < REFERENCES.length; first++) {
            for (int second = 0; second < REFERENCES.length; second++) {
                boolean same = first < 3 && second < 3 || first == second && first > 4;
                due("the same, " + first + ", " + second, object(REFERENCES[first], REFERENCES[second], 0xd3), same ? 1 : 0);
            }
        }
        due("one object", object(0xfb, 1, 0, 0x22, 1, 0x20, 1, 0xd3), 1);
        due("two of a kind", object(0xfb, 1, 6, 0xfb, 1, 6, 0xd3), 0);
        due("one array", object(0xfb, 8, 3, 0, 0x22, 4, 0x20, 4, 0xd3), 1);
    }

    /* "Trap 8 if a reference is null": each instruction that takes one. */
    private static void nullTraps() {
        int[][] traps = {b(0xd0, 0x6d, 0xd4, 0x1a), b(0xd0, 0, 0xd4, 0x1a), b(0xd0, 0, 0xfb, 2, 0, 2, 0x1a), b(0xd0, 0, 0xfb, 3, 0, 0, 0x1a), b(0xd0, 0, 0xfb, 4, 0, 1, 0x1a),
            b(0xd0, 0, 0x41, 0, 0xfb, 5, 0, 0), b(0xd0, 3, 0x41, 0, 0xfb, 11, 3, 0x1a), b(0xd0, 1, 0x41, 0, 0xfb, 12, 1, 0x1a), b(0xd0, 2, 0x41, 0, 0xfb, 13, 2, 0x1a),
            b(0xd0, 3, 0x41, 0, 0x41, 0, 0xfb, 14, 3), b(0xd0, 3, 0xfb, 15, 0x1a), b(0xd0, 3, 0x41, 0, 0x41, 0, 0x41, 0, 0xfb, 16, 3), b(0xd0, 0x6c, 0xfb, 29, 0x1a), b(0xd0, 0x6c, 0xfb, 30, 0x1a)};
        for (int k = 0; k < traps.length; k++) {
            due("null " + k, object(traps[k], 0x41, 0), TRAP + 8);
        }
    }

    /* "(8 and 16 bits: a value's lowest bits are kept ..)", "3 signed, 4 unsigned". */
    private static void fieldsOfBits() {
        for (int value : new int[] {0, 1, 0x7f, 0x80, 0xff, 0x100, 0x17f, 0x180, 0x7fff, 0x8000, 0xffff, 0x10000, 0x18000, -1, -128, -129, Integer.MAX_VALUE, Integer.MIN_VALUE}) {
            int[] made = b(Support.i32(value), Support.i32(value), Support.i32(value), 0x42, 0, 0xd0, 0x6d, 0xfb, 0, 0);
            int[] set = b(0xfb, 1, 0, 0x22, 1, Support.i32(value), 0xfb, 5, 0, 0, 0x20, 1, Support.i32(value), 0xfb, 5, 0, 1, 0x20, 1, Support.i32(value), 0xfb, 5, 0, 2, 0x20, 1);
            for (int[] way : new int[][] {made, set}) {
                due("8 signed of " + value, object(way, 0xfb, 3, 0, 0), (byte) value);
                due("8 unsigned of " + value, object(way, 0xfb, 4, 0, 0), value & 0xff);
                due("16 signed of " + value, object(way, 0xfb, 3, 0, 1), (short) value);
                due("16 unsigned of " + value, object(way, 0xfb, 4, 0, 1), value & 0xffff);
                due("an i32 of " + value, object(way, 0xfb, 2, 0, 2), value);
            }
        }
    }

    private static void elementsOfBits() {
        for (int value : new int[] {0, 1, 0x7f, 0x80, 0xff, 0x100, 0x180, 0x7fff, 0x8000, 0xffff, 0x10000, -1, Integer.MAX_VALUE, Integer.MIN_VALUE}) {
            for (int type = 1; type <= 3; type++) {
                int[] v = Support.i32(value);
                int[] same = b(v, 0x41, 3, 0xfb, 6, type);
                int[] told = b(v, v, v, 0xfb, 8, type, 3);
                int[] set = b(0x41, 3, 0xfb, 7, type, 0x22, type + 1, 0x41, 0, v, 0xfb, 14, type, 0x20, type + 1, 0x41, 1, v, 0xfb, 14, type, 0x20, type + 1, 0x41, 2, v, 0xfb, 14, type, 0x20, type + 1);
                int[] filled = b(0x41, 3, 0xfb, 7, type, 0x22, type + 1, 0x41, 0, v, 0x41, 3, 0xfb, 16, type, 0x20, type + 1);
                for (int[] way : new int[][] {same, told, set, filled}) {
                    for (int at = 0; at < 3; at++) {
                        int[] comes = b(way, 0x41, at);
                        if (type == 3) {
                            due("an i32", object(comes, 0xfb, 11, 3), value);
                        } else {
                            due("signed", object(comes, 0xfb, 12, type), type == 1 ? (byte) value : (short) value);
                            due("unsigned", object(comes, 0xfb, 13, type), type == 1 ? value & 0xff : value & 0xffff);
                        }
                    }
                }
            }
        }
    }

    /* "6 U type: value, i32 n: a new array of n (unsigned) such; 7: n 0s or nulls; 8: of n values, the first one deepest". */
    private static void arraysMade() {
        for (int n : new int[] {0, 1, 2, 64, 65, 100, 1998, 1999}) {
            due("6 of " + n, object(0x41, 5, Support.i32(n), 0xfb, 6, 3, 0xfb, 15), n);
            due("7 of " + n, object(Support.i32(n), 0xfb, 7, 3, 0xfb, 15), n);
            if (n > 0) {
                due("6, its first", object(0x41, 5, Support.i32(n), 0xfb, 6, 3, 0x41, 0, 0xfb, 11, 3), 5);
                due("6, its last", object(0x41, 5, Support.i32(n), 0xfb, 6, 3, Support.i32(n - 1), 0xfb, 11, 3), 5);
                due("7, its first", object(Support.i32(n), 0xfb, 7, 3, 0x41, 0, 0xfb, 11, 3), 0);
                due("7, its last is null", object(Support.i32(n), 0xfb, 7, 5, Support.i32(n - 1), 0xfb, 11, 5, 0xd1), 1);
            }
        }
        for (long n : new long[] {2000, 2001, 4096, 65536, MAX, MIN, -1, -2}) {
            due("6 of " + n, object(0x41, 5, Support.i32(n), 0xfb, 6, 3, 0xfb, 15), TRAP + 11);
            due("7 of " + n, object(Support.i32(n), 0xfb, 7, 3, 0xfb, 15), TRAP + 11);
        }
        int[] values = {};
        for (int k = 0; k < 64; k++) {
            values = b(values, Support.i32(100 + k));
        }
        for (int at : new int[] {0, 1, 62, 63}) {
            due("8, element " + at, object(values, 0xfb, 8, 3, 64, Support.i32(at), 0xfb, 11, 3), 100 + at);
        }
        due("8 of none", object(0xfb, 8, 3, 0, 0xfb, 15), 0);
        due("8 takes no more than it needs", object(values, 0xfb, 8, 3, 2, 0x1a, Support.many(61, 0x1a)), 100);
    }

    /* "10 if an element is outside": the index is an unsigned number. */
    private static void elementBounds() {
        for (int n : new int[] {0, 1, 2, 64, 1999}) {
            int[] made = b(Support.i32(n), 0xfb, 7, 3);
            for (long at : new long[] {n, n + 1, MAX, MIN, MIN + 1, -1, -n - 1}) {
                due("element " + at + " of " + n, object(made, Support.i32(at), 0xfb, 11, 3), TRAP + 10);
                due("element " + at + " of " + n + " set", object(made, Support.i32(at), 0x41, 1, 0xfb, 14, 3, 0x41, 0), TRAP + 10);
                int[] bits = b(Support.i32(n), 0xfb, 7, 1, Support.i32(at));
                due("8 bits signed " + at + " of " + n, object(bits, 0xfb, 12, 1), TRAP + 10);
                due("8 bits unsigned " + at + " of " + n, object(bits, 0xfb, 13, 1), TRAP + 10);
            }
            if (n > 0) {
                due("the last of " + n, object(made, Support.i32(n - 1), 0xfb, 11, 3), 0);
                due("the last of " + n + " set", object(made, 0x22, 4, Support.i32(n - 1), 0x41, 9, 0xfb, 14, 3, 0x20, 4, Support.i32(n - 1), 0xfb, 11, 3), 9);
            }
        }
    }

    /* "n elements from the index on are set .. 10 .. (16: if index and n are beyond its end)". */
    private static void elementsSet() {
        for (int size : new int[] {0, 1, 5}) {
            for (long index : new long[] {0, 1, 4, 5, 6, -1, -2, MIN, MAX}) {
                for (long n : new long[] {0, 1, 4, 5, 6, -1, -4, MIN, MAX}) {
                    boolean fits = (index & 0xffffffffL) + (n & 0xffffffffL) <= size;
                    int[] filled = b(Support.i32(size), 0xfb, 7, 3, 0x22, 4, Support.i32(index), 0x41, 1, Support.i32(n), 0xfb, 16, 3);
                    int[] sum = b(0x41, 0);
                    for (int k = 0; k < size; k++) {
                        sum = b(sum, 0x20, 4, 0x41, k, 0xfb, 11, 3, 0x6a);
                    }
                    due(n + " from " + index + " of " + size, object(filled, sum), fits ? n : TRAP + 10);
                }
            }
        }
        trapSetsNothing();
    }

    private static void trapSetsNothing() {
        Support.Mod mod = objects();
        mod.global(b(0x63, 3), 1, 0xd0, 3);
        int type = mod.type(0x60, 2, I32, I32, 1, I32);
        mod.fn(type, 0x41, 5, 0xfb, 7, 3, 0x24, 0, 0x41, 0);
        mod.fn(type, 0x23, 0, 0x20, 0, 0x41, 1, 0x20, 1, 0xfb, 16, 3, 0x41, 0);
        mod.fn(type, 0x23, 0, 0x20, 0, 0xfb, 11, 3);
        Support.House house = mod.house();
        house.call('a', 1, 0, 0);
        due("over the end", house.call('b', 1, 3, 3), 10);
        for (int k = 0; k < 5; k++) {
            due("an element", house.call('c', 1, k, 0), 0);
            due("is not set", house.x.result(0), 0);
        }
        due("two of them", house.call('b', 1, 3, 2), 0);
        for (int k = 0; k < 5; k++) {
            house.call('c', 1, k, 0);
            due("set or not", house.x.result(0), k >= 3 ? 1 : 0);
        }
    }

    /* "Trap 8 looks ahead of 10." */
    private static void nullLooksAheadOfOutside() {
        for (long at : new long[] {0, 5, -1, MIN, MAX}) {
            due("11", object(0xd0, 3, Support.i32(at), 0xfb, 11, 3), TRAP + 8);
            due("12", object(0xd0, 1, Support.i32(at), 0xfb, 12, 1), TRAP + 8);
            due("13", object(0xd0, 1, Support.i32(at), 0xfb, 13, 1), TRAP + 8);
            due("14", object(0xd0, 3, Support.i32(at), 0x41, 0, 0xfb, 14, 3, 0x41, 0), TRAP + 8);
            due("16", object(0xd0, 3, Support.i32(at), 0x41, 0, Support.i32(at), 0xfb, 16, 3, 0x41, 0), TRAP + 8);
        }
    }

    /* "whether a reference is to that (small: a small number; anything: all but null; a type's number: an object of a type that is the same; 21: or null)". */
    private static void casts() {
        int[][] given = {b(0xd0, 0x6d), b(0x41, 0, 0xfb, 28), b(Support.i32(-1), 0xfb, 28), b(Support.i32(MAX), 0xfb, 28), b(0xfb, 1, 0), b(0xfb, 8, 3, 0), b(0xfb, 1, 6), b(0xd0, 0)};
        int[] targets = {0x6d, 0x6c, 0, 3, 4, 6};
        int[][] is = {{}, {0x6d, 0x6c}, {0x6d, 0x6c}, {0x6d, 0x6c}, {0x6d, 0}, {0x6d, 3}, {0x6d, 6}, {}};
        for (int k = 0; k < given.length; k++) {
            boolean isNull = k == 0 || k == 7;
            for (int target : targets) {
                boolean that = contains(is[k], target);
                due("20 of " + k + " to " + target, object(given[k], 0xfb, 20, target), that ? 1 : 0);
                due("21 of " + k + " to " + target, object(given[k], 0xfb, 21, target), that || isNull ? 1 : 0);
                due("22 of " + k + " to " + target, object(given[k], 0xfb, 22, target, 0xd1), that ? 0 : TRAP + 9);
                due("23 of " + k + " to " + target, object(given[k], 0xfb, 23, target, 0xd1), isNull ? 1 : that ? 0 : TRAP + 9);
            }
        }
    }

    private static boolean contains(int[] all, int wanted) {
        for (int one : all) {
            if (one == wanted) {
                return true;
            }
        }
        return false;
    }

    /* "28: a small reference of an i32's lowest 31 bits; 29, 30: those signed, unsigned"; "0xd3: .. the same small number". */
    private static void smallOnes() {
        for (int a : NUMBERS) {
            int[] small = b(Support.i32(a), 0xfb, 28);
            due("signed of " + a, object(small, 0xfb, 29), a << 1 >> 1);
            due("unsigned of " + a, object(small, 0xfb, 30), a & 0x7fffffff);
            due("not null, " + a, object(small, 0xd1), 0);
            due("the same as without bit 31, " + a, object(small, Support.i32(a ^ 0x80000000), 0xfb, 28, 0xd3), 1);
            due("another without bit 30, " + a, object(small, Support.i32(a ^ 0x40000000), 0xfb, 28, 0xd3), 0);
            due("another without bit 0, " + a, object(small, Support.i32(a ^ 1), 0xfb, 28, 0xd3), 0);
            due("no object, " + a, object(0xfb, 1, 6, small, 0xd3), 0);
            due("not null as a reference, " + a, object(small, 0xd0, 0x6c, 0xd3), 0);
        }
    }

    private static Support.Mod places() {
        Support.Mod mod = new Support.Mod().table(0, 4).memory(0, 1);
        int number = mod.type(0x60, 0, 1, I32);
        mod.fn(mod.type(0x60, 1, I32, 1, I32), 0x20, 0, 0x11, number, 0);
        mod.fn(number, 0x41, 11);
        mod.fn(number, 0x41, 12);
        return mod;
    }

    /* "elements come to their places, in order ..: trap 5 .. if they don't fit (none at all fit up to the very end; the ones before stay)". */
    private static void elementsComeToTheirPlaces() {
        for (int place = 0; place <= 6; place++) {
            for (int count = 0; count <= 5; count++) {
                Support.House house = places().element(0, 2).element(place, Support.many(count, 1)).element(3, 2).data(0, 5).house();
                boolean fits = place + count <= 4;
                due(count + " at " + place, house.loaded, fits ? 0 : 5);
                for (int at = 0; at < 4; at++) {
                    boolean mine = fits && at >= place && at < place + count;
                    long want = fits && at == 3 ? 12 : mine ? 11 : at == 0 ? 12 : TRAP + 6;
                    due("place " + at, house.value(at), want);
                }
                due("data come behind them", house.x.at(0), fits ? 5 : 0);
            }
        }
        for (long place : new long[] {-1, -4, MIN, MAX, 5, 64, 65}) {
            due("none at " + place, places().element(place).loaded(), 5);
            due("one at " + place, places().element(place, 1).loaded(), 5);
        }
        Support.Mod empty = new Support.Mod().table(0, 0);
        empty.fn(empty.type(0x60, 0, 0));
        due("none in a table of none", empty.element(0).loaded(), 0);
        due("one in a table of none", empty.element(0, 0).loaded(), 5);
        Support.Mod full = new Support.Mod().table(0, 64);
        full.fn(full.type(0x60, 0, 0));
        due("64 in a table of 64", full.element(0, new int[64]).loaded(), 0);
        due("none at its end", full.element(64).loaded(), 0);
        due("one at its last", full.element(63, 0).loaded(), 0);
        due("one at its end", full.element(64, 0).loaded(), 5);
    }

    /* "then data: .. trap 2, if they don't fit (none at all fit up to the very end; the ones before stay)". */
    private static void dataComeToTheirPlaces() {
        for (int pages : new int[] {0, 1, 2, 16}) {
            int size = 4096 * pages;
            for (int count : new int[] {0, 1, 2, 7}) {
                for (long place : new long[] {0, size - count, size - count + 1, size, size + 1, -1, -count, MIN, MAX}) {
                    if (place < 0 && place == size - count) {
                        continue;
                    }
                    boolean fits = (place & 0xffffffffL) + count <= size;
                    Support.Mod mod = new Support.Mod().memory(0, pages).data(place, Support.many(count, 0xee));
                    Support.House house = mod.house();
                    due(count + " at " + place + " of " + pages + " pages", house.loaded, fits ? 0 : 2);
                    if (pages > 0) {
                        due("the last byte", house.x.at(size - 1), fits && count > 0 && (place + count == size) ? 0xee : 0);
                    }
                    if (fits && count > 0) {
                        due("its first byte", house.x.at((int) place), 0xee);
                    }
                }
            }
        }
        Support.House house = places().data(10, 1, 2, 3).data(11, 9).data(4095, 4, 5).data(20, 6).element(0, 1).house();
        due("the third does not fit", house.loaded, 2);
        due("the first stays", house.x.at(10), 1);
        due("the second came over it", house.x.at(11), 9);
        due("the rest of the first", house.x.at(12), 3);
        due("nothing of the third", house.x.at(4095), 0);
        due("nothing of the fourth", house.x.at(20), 0);
        due("elements came before", house.value(0), 11);
    }

    /* "With a trap the instance stays as it is then, and can be used." */
    private static void afterATrapTheInstanceStays() {
        for (int trap : new int[] {5, 2, 1, 13, 12}) {
            Support.Mod mod = new Support.Mod().table(0, 1).memory(0, 1);
            mod.global(I, 1, 0x41, 1);
            mod.fn(mod.type(0x60, 0, 0), 0x41, 2, 0x24, 0, trap == 13 ? b(0x03, 0x40, 0x0c, 0, 0x0b) : trap == 12 ? b(0x10, 0) : b(0x00));
            mod.fn(mod.type(0x60, 0, 1, I32), 0x23, 0);
            mod.export('g', 3, 0);
            mod.start = b(0);
            mod.data(7, 9);
            if (trap == 5) {
                mod.element(1, 0);
            }
            if (trap == 2) {
                mod.data(4096, 9);
            }
            Support.House house = mod.house();
            due("the trap", house.loaded, trap);
            due("there is an instance", house.x.look(0), 1);
            due("the global", house.x.global(2), trap == 5 || trap == 2 ? 1 : 2);
            due("data", house.x.at(7), trap == 5 ? 0 : 9);
            due("functions", house.x.look(1), 2);
            due("it can be called", house.call('b', 1), 0);
            due("its result", house.x.result(0), trap == 5 || trap == 2 ? 1 : 2);
        }
    }

    /* Each of 64 types, functions, globals, exports, elements and data is its own. */
    private static void sixtyFourOfAll() {
        Support.Mod mod = new Support.Mod().table(0, 64).memory(0, 1);
        for (int k = 0; k < 64; k++) {
            mod.type(0x60, k % 16, Support.many(k % 16, I32), 1, k < 32 ? I32 : I64);
            mod.global(k < 32 ? I : L, 1, k < 32 ? Support.i32(200 + k) : Support.i64(200 + k));
            mod.functions.add(b(k));
            int[] body = b(0, k % 16 == 0 ? k < 32 ? Support.i32(300 + k) : Support.i64(300 + k) : b(0x20, k % 16 - 1, k < 32 ? NOTHING : b(0xac)), 0x23, k, k < 32 ? 0x6a : 0x7c, 0x0b);
            mod.bodies.add(b(Support.u(body.length), body));
            mod.export(k + 32, k % 2 == 0 ? 0 : 3, k);
            mod.element(63 - k, k);
            mod.data(2 * k, k + 1);
        }
        Support.House house = mod.house();
        due("all of 64", house.loaded, 0);
        for (int k = 0; k < 64; k++) {
            due("data " + k, house.x.at(2 * k), k + 1);
            due("nothing behind it", house.x.at(2 * k + 1), 0);
            if (k % 2 == 1) {
                due("global " + k, house.x.global(k), 200 + k);
                continue;
            }
            long[] arguments = new long[k % 16];
            for (int n = 0; n < arguments.length; n++) {
                arguments[n] = 10 * k + n;
            }
            due("function " + k, house.call(k + 32, 1, arguments), 0);
            due("its result", house.x.result(0), (k % 16 == 0 ? 300 + k : 10 * k + k % 16 - 1) + 200 + k);
        }
        Support.Mod table = new Support.Mod().table(0, 64);
        int number = table.type(0x60, 0, 1, I32);
        table.fn(table.type(0x60, 1, I32, 1, I32), 0x20, 0, 0x11, number, 0);
        for (int k = 1; k < 64; k++) {
            table.functions.add(b(number));
            int[] body = b(0, Support.i32(500 + k), 0x0b);
            table.bodies.add(b(Support.u(body.length), body));
        }
        for (int k = 0; k < 64; k++) {
            table.element(k, 63 - k);
        }
        Support.House places = table.house();
        for (int k = 0; k < 63; k++) {
            due("place " + k, places.value(k), 563 - k);
        }
        due("the last place has another type", places.value(63), TRAP + 7);
    }

    /* "then the function of 8 is called, with 1000 TURNS". */
    private static void theFirstCall() {
        for (int round : new int[] {998, 999, 1000}) {
            Support.Mod mod = new Support.Mod();
            mod.global(I, 1, 0x41, 0);
            mod.fn(mod.type(0x60, 0, 0), 0x03, 0x40, 0x23, 0, 0x41, 1, 0x6a, 0x24, 0, 0x23, 0, Support.i32(round), 0x48, 0x0d, 0, 0x0b);
            mod.export('g', 3, 0);
            mod.start = b(0);
            Support.House house = mod.house();
            due(round + " times round", house.loaded, 0);
            due("turns left", house.x.look(6), 1000 - round);
            due("the global", house.x.global(1), round);
        }
        Support.Mod mod = new Support.Mod();
        mod.global(I, 1, 0x41, 0);
        mod.fn(mod.type(0x60, 0, 0), 0x03, 0x40, 0x23, 0, 0x41, 1, 0x6a, 0x24, 0, 0x23, 0, Support.i32(1001), 0x48, 0x0d, 0, 0x0b);
        mod.export('g', 3, 0);
        mod.start = b(0);
        Support.House house = mod.house();
        due("1001 times round", house.loaded, 13);
        due("none left", house.x.look(6), 0);
        due("1000 times round it was", house.x.global(1), 1000);
        house.x.give(5);
        due("arguments are not its own", house.x.look(9), 1);
    }
}

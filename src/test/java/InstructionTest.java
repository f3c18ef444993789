import java.util.Random;

/** Promise 5: what the instructions answer, and their traps 1 to 10. */
public final class InstructionTest {
    private static final int I32 = Support.I32;
    private static final int I64 = Support.I64;
    private static final int[] NOTHING = {};
    private static final int[] I = {I32};
    private static final int[] L = {I64};
    private static final long MIN = Integer.MIN_VALUE;
    private static final long MAX = Integer.MAX_VALUE;
    private static final long LEAST = Long.MIN_VALUE;
    private static final long MOST = Long.MAX_VALUE;
    private static final long TRAP = Support.TRAPPED;

    public static void main(String[] args) {
        relations();
        arithmetic32();
        arithmetic64();
        asTheLibraryDoes();
        conversions();
        control();
        loops();
        rowsOfWays();
        calls();
        callsByTable();
        variables();
        memory();
        pages();
        references();
        referenceBranches();
        structures();
        arrays();
        elementsSet();
        casts();
        smallOnes();
        Support.end();
    }

    private static int[] b(Object... parts) {
        return Support.b(parts);
    }

    private static long run(int[] results, Object... code) {
        return Support.one(NOTHING, results, code).house().value();
    }

    private static void due(String what, long got, long want) {
        Support.due(what, got, want);
    }

    private static void two32(int op, long a, long c, long want) {
        due(Integer.toHexString(op) + " of " + a + ", " + c, run(I, Support.i32(a), Support.i32(c), op), want);
    }

    private static void two64(int op, int[] to, long a, long c, long want) {
        due(Integer.toHexString(op) + " of " + a + ", " + c, run(to, Support.i64(a), Support.i64(c), op), want);
    }

    private static void relations() {
        long[][] pairs = {{1, 1}, {1, 2}, {2, 1}, {-1, 1}, {1, -1}, {-1, -2}};
        for (long[] p : pairs) {
            boolean below = Long.compareUnsigned(p[0], p[1]) < 0;
            boolean above = Long.compareUnsigned(p[0], p[1]) > 0;
            boolean[] holds = {p[0] == p[1], p[0] != p[1], p[0] < p[1], below, p[0] > p[1], above, p[0] <= p[1], !above, p[0] >= p[1], !below};
            for (int k = 0; k < 10; k++) {
                two32(0x46 + k, p[0], p[1], holds[k] ? 1 : 0);
                two64(0x51 + k, I, p[0], p[1], holds[k] ? 1 : 0);
            }
        }
        two32(0x49, MIN, MAX, 0);
        two32(0x48, MIN, MAX, 1);
        two64(0x51, I, 1L << 32, 0, 0);
        due("0 is 0", run(I, 0x41, 0, 0x45), 1);
        due("1 is not 0", run(I, 0x41, 1, 0x45), 0);
        due("i64 0 is 0", run(I, 0x42, 0, 0x50), 1);
        due("2^32 is not 0", run(I, Support.i64(1L << 32), 0x50), 0);
    }

    private static void arithmetic32() {
        due("leading", run(I, 0x41, 1, 0x67), 31);
        due("leading of 0", run(I, 0x41, 0, 0x67), 32);
        due("ending", run(I, Support.i32(8), 0x68), 3);
        due("ending of 0", run(I, 0x41, 0, 0x68), 32);
        due("ones", run(I, Support.i32(-1), 0x69), 32);
        two32(0x6a, MAX, 1, MIN);
        two32(0x6b, MIN, 1, MAX);
        two32(0x6c, 65536, 65537, 65536);
        two32(0x6d, -7, 2, -3);
        two32(0x6d, 7, 0, TRAP + 3);
        two32(0x6d, MIN, -1, TRAP + 4);
        two32(0x6d, MIN, 0, TRAP + 3);
        two32(0x6e, -7, 2, 2147483644);
        two32(0x6e, MIN, -1, 0);
        two32(0x6e, 7, 0, TRAP + 3);
        two32(0x6f, -7, 2, -1);
        two32(0x6f, MIN, -1, 0);
        two32(0x6f, 7, 0, TRAP + 3);
        two32(0x70, -7, 10, 9);
        two32(0x70, 7, 0, TRAP + 3);
        two32(0x6e, -1, -2, 1);
        two32(0x6e, -2, -1, 0);
        two32(0x6e, -1, MIN, 1);
        two32(0x6e, MIN, MIN, 1);
        two32(0x6e, 7, -1, 0);
        two32(0x6e, -1, 1, -1);
        two32(0x70, -1, -2, 1);
        two32(0x70, -2, -1, -2);
        two32(0x70, -1, MIN, MAX);
        two32(0x70, MIN, MIN, 0);
        two32(0x70, 7, -1, 7);
        two32(0x70, -1, 1, 0);
        two32(0x71, 12, 10, 8);
        two32(0x72, 12, 10, 14);
        two32(0x73, 12, 10, 6);
        two32(0x74, 1, 31, MIN);
        two32(0x74, 1, 33, 2);
        two32(0x75, -8, 1, -4);
        two32(0x75, -8, 33, -4);
        two32(0x76, -8, 1, 2147483644);
        two32(0x76, -1, 32, -1);
        two32(0x77, MIN, 1, 1);
        two32(0x77, 1, 33, 2);
        two32(0x78, 1, 1, MIN);
        two32(0x78, 2, 33, 1);
    }

    private static void arithmetic64() {
        due("leading", run(L, 0x42, 1, 0x79), 63);
        due("leading of 0", run(L, 0x42, 0, 0x79), 64);
        due("ending", run(L, Support.i64(1L << 40), 0x7a), 40);
        due("ending of 0", run(L, 0x42, 0, 0x7a), 64);
        due("ones", run(L, Support.i64(-2), 0x7b), 63);
        two64(0x7c, L, MOST, 1, LEAST);
        two64(0x7d, L, LEAST, 1, MOST);
        two64(0x7e, L, 1L << 33, 1L << 33, 0);
        two64(0x7e, L, 3, -5, -15);
        two64(0x7f, L, -7, 2, -3);
        two64(0x7f, L, 7, 0, TRAP + 3);
        two64(0x7f, L, LEAST, -1, TRAP + 4);
        two64(0x7f, L, MIN, -1, -MIN);
        two64(0x80, L, -1, 2, MOST);
        two64(0x80, L, 7, 0, TRAP + 3);
        two64(0x80, L, LEAST, -1, 0);
        two64(0x81, L, -7, 2, -1);
        two64(0x81, L, LEAST, -1, 0);
        two64(0x81, L, 7, 0, TRAP + 3);
        two64(0x82, L, -1, 10, 5);
        two64(0x82, L, 7, 0, TRAP + 3);
        two64(0x80, L, -1, -2, 1);
        two64(0x80, L, -2, -1, 0);
        two64(0x80, L, -1, LEAST, 1);
        two64(0x80, L, LEAST, LEAST, 1);
        two64(0x80, L, 7, -1, 0);
        two64(0x80, L, -1, 1, -1);
        two64(0x80, L, -1, MOST, 2);
        two64(0x82, L, -1, -2, 1);
        two64(0x82, L, -2, -1, -2);
        two64(0x82, L, -1, LEAST, MOST);
        two64(0x82, L, LEAST, LEAST, 0);
        two64(0x82, L, 7, -1, 7);
        two64(0x82, L, -1, 1, 0);
        two64(0x82, L, -1, MOST, 1);
        two64(0x83, L, 12, 10, 8);
        two64(0x84, L, 12, 10, 14);
        two64(0x85, L, 12, 10, 6);
        two64(0x86, L, 1, 63, LEAST);
        two64(0x86, L, 1, 65, 2);
        two64(0x87, L, -8, 65, -4);
        two64(0x88, L, -1, 1, MOST);
        two64(0x88, L, -1, 64, -1);
        two64(0x89, L, LEAST, 1, 1);
        two64(0x8a, L, 1, 65, LEAST);
    }

    /* The class must do without these functions of the library, and answer what they do. */
    private static void asTheLibraryDoes() {
        Random numbers = new Random(11);
        for (int k = 0; k < 20; k++) {
            Support.House narrow = pairHouse(I32, 0x6e, 0x70, 0x77, 0x78, 0x49);
            Support.House wide = pairHouse(I64, 0x80, 0x82, 0x89, 0x8a, 0x54);
            for (int n = 0; n < 20; n++) {
                long a = someNumber(numbers);
                long c = someNumber(numbers) | 1;
                int x = (int) a;
                int y = (int) c;
                duePair(narrow, x, y, Integer.divideUnsigned(x, y), Integer.remainderUnsigned(x, y), Integer.rotateLeft(x, y),
                        Integer.rotateRight(x, y), Integer.compareUnsigned(x, y) < 0 ? 1 : 0,
                        Integer.numberOfLeadingZeros(x), Integer.numberOfTrailingZeros(x));
                duePair(wide, a, c, Long.divideUnsigned(a, c), Long.remainderUnsigned(a, c), Long.rotateLeft(a, (int) c),
                        Long.rotateRight(a, (int) c), Long.compareUnsigned(a, c) < 0 ? 1 : 0,
                        Long.numberOfLeadingZeros(a), Long.numberOfTrailingZeros(a));
            }
        }
    }

    /* A function of two numbers: what each of five instructions makes of both, and two of the first one. */
    private static Support.House pairHouse(int type, int... op) {
        int leading = type == I32 ? 0x67 : 0x79;
        return Support.one(new int[] {type, type}, new int[] {type, type, type, type, I32, type, type},
                0x20, 0, 0x20, 1, op[0], 0x20, 0, 0x20, 1, op[1], 0x20, 0, 0x20, 1, op[2], 0x20, 0, 0x20, 1, op[3],
                0x20, 0, 0x20, 1, op[4], 0x20, 0, leading, 0x20, 0, leading + 1).house();
    }

    private static void duePair(Support.House house, long a, long c, long... want) {
        due("two numbers", house.call('a', 1, a, c), 0);
        for (int k = 0; k < want.length; k++) {
            due("result " + k + " of " + a + ", " + c, house.x.result(k), want[k]);
        }
    }

    private static long someNumber(Random numbers) {
        long any = numbers.nextLong();
        return switch (numbers.nextInt(3)) {
            case 0 -> any;
            case 1 -> any >> numbers.nextInt(64);
            default -> any >>> numbers.nextInt(64);
        };
    }

    private static void conversions() {
        due("lowest 32", run(I, Support.i64(0x1_8000_0000L), 0xa7), MIN);
        due("signed", run(L, Support.i32(-1), 0xac), -1);
        due("signed as a whole", run(L, Support.i32(0x12345678), 0xac), 0x12345678);
        due("unsigned", run(L, Support.i32(-1), 0xad), 0xffffffffL);
        due("8 bits", run(I, Support.i32(0x1ff80), 0xc0), -128);
        due("8 bits above", run(I, Support.i32(0x7f), 0xc0), 127);
        due("16 bits", run(I, Support.i32(0x18000), 0xc1), -32768);
        due("16 bits without others", run(I, Support.i32(0x8000), 0xc1), -32768);
        due("16 bits above 0", run(I, Support.i32(0x14000), 0xc1), 0x4000);
        due("i64 16 bits without others", run(L, Support.i64(0x8000), 0xc3), -32768);
        due("i64 8 bits without others", run(L, Support.i64(0x80), 0xc2), -128);
        due("i64 8 bits", run(L, Support.i64(0xff80L), 0xc2), -128);
        due("i64 16 bits", run(L, Support.i64(0xfff8000L), 0xc3), -32768);
        due("i64 32 bits", run(L, Support.i64(0x180000000L), 0xc4), MIN);
        due("i32 takes the lowest 32 bits", Support.one(I, L, 0x20, 0, 0xac).house().value(0x1_0000_0005L), 5);
        due("i32 with its sign", Support.one(I, L, 0x20, 0, 0xac).house().value(0xffff_ffffL), -1);
    }

    private static void control() {
        due("trap", run(I, 0x00), TRAP + 1);
        due("nothing", run(I, 0x01, 0x41, 3, 0x01), 3);
        due("a block", run(I, 0x02, I32, 0x41, 3, 0x0b), 3);
        due("out of a block", run(I, 0x02, I32, 0x41, 3, 0x0c, 0, 0x00, 0x0b), 3);
        due("values below go", run(I, 0x02, I32, 0x41, 9, 0x42, 8, 0x41, 3, 0x0c, 0, 0x0b), 3);
        due("values around stay", run(I, 0x41, 40, 0x02, I32, 0x41, 9, 0x41, 3, 0x0c, 0, 0x0b, 0x6a), 43);
        due("out of two blocks", run(I, 0x02, I32, 0x41, 5, 0x02, 0x40, 0x41, 3, 0x0c, 1, 0x0b, 0x0b), 3);
        due("out of the function by a block's number", run(I, 0x02, 0x40, 0x41, 3, 0x0c, 1, 0x0b, 0x00), 3);
        due("out of the function", run(I, 0x41, 9, 0x02, 0x40, 0x41, 8, 0x41, 3, 0x0f, 0x0b, 0x00), 3);
        for (int k = 0; k <= 2; k++) {
            due("if " + k, run(I, 0x41, k, 0x04, I32, 0x41, 10, 0x05, 0x41, 20, 0x0b), k == 0 ? 20 : 10);
            due("if without else " + k, run(I, 0x41, 5, 0x41, k, 0x04, 0x40, 0x41, 7, 0x0f, 0x0b), k == 0 ? 5 : 7);
            due("out of if or else " + k,
                    run(I, 0x41, k, 0x04, I32, 0x41, 10, 0x0c, 0, 0x05, 0x41, 20, 0x0c, 0, 0x0b), k == 0 ? 20 : 10);
            due("branch if " + k, run(I, 0x02, I32, 0x41, 10, 0x41, k, 0x0d, 0, 0x1a, 0x41, 20, 0x0b), k == 0 ? 20 : 10);
            due("choose " + k, run(I, 0x41, 1, 0x41, 2, 0x41, k, 0x1b), k == 0 ? 2 : 1);
            due("choose i64 " + k, run(L, 0x42, 1, 0x42, 2, 0x41, k, 0x1b), k == 0 ? 2 : 1);
        }
        Support.Mod mod = new Support.Mod();
        mod.type(0x60, 2, I32, I32, 2, I32, I32);
        mod.fn(mod.type(0x60, 0, 2, I32, I32), 0x41, 1, 0x41, 2, 0x02, 0, 0x41, 5, 0x6a, 0x0b);
        Support.House house = mod.house();
        due("two parameters, two results", house.call('a', 1), 0);
        due("the first", house.x.result(0), 1);
        due("the second", house.x.result(1), 7);
    }

    private static void loops() {
        int[] sum = b(0x03, 0x40, 0x20, 1, 0x20, 0, 0x6a, 0x21, 1, 0x20, 0, 0x41, 1, 0x6b, 0x22, 0, 0x0d, 0, 0x0b, 0x20, 1);
        Support.Mod mod = new Support.Mod();
        mod.fnWith(mod.type(0x60, 1, I32, 1, I32), b(1, 1, I32), sum);
        due("sum to 10", mod.house().value(10), 55);
        due("a loop without a way back", run(I, 0x03, I32, 0x41, 3, 0x0b), 3);
        Support.Mod with = new Support.Mod();
        with.type(0x60, 1, I64, 1, I64);
        with.fnWith(with.type(0x60, 0, 1, I64), b(1, 1, I32),
                0x42, 1, 0x03, 0, 0x42, 2, 0x7e, 0x20, 0, 0x41, 1, 0x6a, 0x22, 0, 0x41, 10, 0x48, 0x0d, 0, 0x0b);
        due("a loop with a parameter", with.house().value(), 1024);
    }

    private static void rowsOfWays() {
        int[] code = b(0x02, 0x40, 0x02, 0x40, 0x02, 0x40, 0x20, 0, 0x0e, 2, 0, 1, 2, 0x0b, 0x41, 10, 0x0f, 0x0b, 0x41, 11, 0x0f, 0x0b, 0x41, 12);
        Support.House house = Support.one(I, I, code).house();
        due("way 0", house.value(0), 10);
        due("way 1", house.value(1), 11);
        due("the last way", house.value(2), 12);
        due("none there", house.value(3), 12);
        due("as an unsigned number", house.value(-1), 12);
        due("no ways but the last", run(I, 0x02, I32, 0x41, 4, 0x41, 0, 0x0e, 0, 0, 0x0b), 4);
    }

    private static void calls() {
        Support.Mod mod = new Support.Mod();
        int two = mod.type(0x60, 2, I32, I64, 2, I64, I32);
        int none = mod.type(0x60, 0, 1, I32);
        mod.fnWith(none, b(1, 1, I32), 0x41, 30, 0x41, 5, 0x42, 6, 0x10, 1, 0x21, 0, 0xa7, 0x20, 0, 0x6b, 0x6a);
        mod.fnWith(two, b(1, 2, I32), 0x20, 1, 0x20, 0, 0x20, 2, 0x6a);
        due("30 + (6 - 5)", mod.house().value(), 31);
        Support.Mod after = new Support.Mod();
        int one = after.type(0x60, 1, I32, 1, I32);
        after.fnWith(one, b(1, 3, I64), 0x41, 7, 0x02, I32, 0x41, 9, 0x20, 0, 0x10, 1, 0x41, 1, 0x0d, 0, 0x6a, 0x0b, 0x6a);
        after.fnWith(one, b(1, 30, I64), 0x20, 0, 0x0f);
        due("a way out behind a call", after.house().value(5), 12);
        Support.Mod facts = new Support.Mod();
        int type = facts.type(0x60, 1, I64, 1, I64);
        facts.fn(type, 0x20, 0, 0x50, 0x04, I64, 0x42, 1, 0x05, 0x20, 0, 0x20, 0, 0x42, 1, 0x7d, 0x10, 0, 0x7e, 0x0b);
        due("10!", facts.house().value(10), 3628800);
    }

    private static void callsByTable() {
        Support.Mod mod = new Support.Mod().table(0, 4);
        int type = mod.type(0x60, 1, I32, 1, I32);
        int same = mod.type(0x60, 1, I32, 1, I32);
        int other = mod.type(0x60, 1, I64, 1, I32);
        mod.fn(type, 0x20, 0, 0x20, 0, 0x11, same, 0);
        mod.fn(same, 0x20, 0, 0x41, 50, 0x6a);
        mod.fn(other, 0x41, 0);
        mod.element(1, 1, 2);
        Support.House house = mod.house();
        due("a function of a type that is the same", house.value(1), 51);
        due("of another type", house.value(2), TRAP + 7);
        due("nothing there", house.value(0), TRAP + 6);
        due("nothing there either", house.value(3), TRAP + 6);
        due("outside", house.value(4), TRAP + 5);
        due("far outside", house.value(-1), TRAP + 5);
        due("no turn was taken for it", house.x.look(6), 99);
        due("the places", house.x.look(4), 4);
    }

    private static void variables() {
        Support.Mod mod = new Support.Mod();
        mod.global(I, 1, Support.i32(-5));
        mod.global(L, 0, Support.i64(MOST));
        mod.export('g', 3, 0).export('h', 3, 1);
        int type = mod.type(0x60, 1, I32, 1, I32);
        mod.fnWith(type, b(2, 1, I32, 1, 0x6d), 0x23, 0, 0x20, 0, 0x24, 0, 0x20, 1, 0x6a, 0x20, 0, 0x22, 1, 0x6a, 0x20, 1, 0x6a);
        Support.House house = mod.house();
        due("a global at first", house.x.global(0), -5);
        due("before, and a new one", house.value(7), 9);
        due("the global", house.x.global(0), 7);
        due("locals are 0 again", house.value(1), 9);
        due("the other global", house.x.global(1), MOST);
    }

    private static void memory() {
        Support.Mod mod = new Support.Mod().memory(0, 1).data(0, 0x81, 0x82, 0x83, 0x84, 0x85, 0x86, 0x87, 0x88);
        int[] types = new int[2];
        types[0] = mod.type(0x60, 1, I32, 1, I32);
        types[1] = mod.type(0x60, 1, I32, 1, I64);
        int[] ops = {0x28, 0x2c, 0x2d, 0x2e, 0x2f, 0x29, 0x30, 0x31, 0x32, 0x33, 0x34, 0x35};
        long[] want = {0xffffffff84838281L, -127, 0x81, -32127, 0x8281, 0x8887868584838281L, -127, 0x81, -32127, 0x8281, 0xffffffff84838281L, 0x84838281L};
        int[] width = {4, 1, 1, 2, 2, 8, 1, 1, 2, 2, 4, 4};
        for (int k = 0; k < ops.length; k++) {
            mod.fn(types[k < 5 ? 0 : 1], 0x20, 0, ops[k], 0, 0);
        }
        Support.House house = mod.house();
        for (int k = 0; k < ops.length; k++) {
            due("load " + ops[k], house.call('a' + k, 1, 0), 0);
            due("load " + ops[k], house.x.result(0), want[k]);
            due("at the end " + ops[k], house.call('a' + k, 1, 4096 - width[k]), 0);
            due("over the end " + ops[k], house.call('a' + k, 1, 4097 - width[k]), 2);
            due("far outside " + ops[k], house.call('a' + k, 1, -1), 2);
        }
        stores();
        due("address and offset", memoryRun(I, 0x41, 2, 0x2d, 0, 3), 0x86);
        due("an offset that is too great", memoryRun(I, 0x41, 0, 0x2d, 0, 0xff, 0xff, 0xff, 0xff, 0x0f), TRAP + 2);
        due("they don't come round", memoryRun(I, Support.i32(-1), 0x2d, 0, 1), TRAP + 2);
        due("nor with the greatest", memoryRun(I, Support.i32(-1), 0x2d, 0, 0xff, 0xff, 0xff, 0xff, 0x0f), TRAP + 2);
    }

    private static long memoryRun(int[] results, Object... code) {
        Support.Mod mod = new Support.Mod().memory(0, 1).data(0, 0x81, 0x82, 0x83, 0x84, 0x85, 0x86, 0x87, 0x88);
        return Support.oneWith(mod, NOTHING, results, code).house().value();
    }

    private static void stores() {
        int[] ops = {0x36, 0x3a, 0x3b, 0x37, 0x3c, 0x3d, 0x3e};
        int[] width = {4, 1, 2, 8, 1, 2, 4};
        Support.Mod mod = new Support.Mod().memory(0, 1);
        int narrow = mod.type(0x60, 2, I32, I32, 0);
        int wide = mod.type(0x60, 2, I32, I64, 0);
        for (int k = 0; k < ops.length; k++) {
            mod.fn(k < 3 ? narrow : wide, 0x20, 0, 0x20, 1, ops[k], 0, 0);
        }
        Support.House house = mod.house();
        for (int k = 0; k < ops.length; k++) {
            int place = 16 * k;
            due("store", house.call('a' + k, 1, place, 0x1122334455667788L), 0);
            for (int n = 0; n < 9; n++) {
                int want = n < width[k] ? 0x88 - 0x11 * n : 0;
                due("byte " + n + " of store " + ops[k], house.x.at(place + n), want);
            }
            due("store of -1", house.call('a' + k, 1, 512 + place, -1), 0);
            due("its last byte", house.x.at(512 + place + width[k] - 1), 255);
            due("not beside it", house.x.at(512 + place + width[k]), 0);
            due("store at the end", house.call('a' + k, 1, 4096 - width[k], 0), 0);
            due("store over the end", house.call('a' + k, 1, 4097 - width[k], -1), 2);
            due("and nothing of it is there", house.x.at(4095), 0);
        }
    }

    private static void pages() {
        Support.Mod mod = new Support.Mod().memory(1, 1, 3);
        int type = mod.type(0x60, 1, I32, 1, I32);
        mod.fn(type, 0x20, 0, 0x40, 0);
        mod.fn(type, 0x3f, 0);
        mod.fn(type, 0x20, 0, 0x2d, 0, 0);
        Support.House house = mod.house();
        due("over the end", house.call('c', 1, 4096), 2);
        due("one more", house.value(1), 1);
        due("pages", house.x.look(3), 2);
        due("in it", house.call('c', 1, 8191), 0);
        due("a 0", house.x.result(0), 0);
        due("over the end again", house.call('c', 1, 8192), 2);
        due("two more are too many", house.value(2), -1);
        due("as an unsigned number", house.value(-1), -1);
        due("none more", house.value(0), 2);
        due("the last one", house.value(1), 2);
        due("no more", house.value(1), -1);
        house.call('b', 1, 0);
        due("pages by the instruction", house.x.result(0), 3);
        Support.Mod open = new Support.Mod().memory(0, 0);
        open.fn(open.type(0x60, 1, I32, 1, I32), 0x20, 0, 0x40, 0);
        Support.House whole = open.house();
        due("17 pages", whole.value(17), -1);
        due("16 pages", whole.value(16), 0);
        due("the last byte", whole.x.at(65535), 0);
        Support.Mod told = new Support.Mod().memory(1, 0, Support.u(100));
        told.fn(told.type(0x60, 1, I32, 1, I32), 0x20, 0, 0x40, 0);
        due("17 of 100", told.house().value(17), -1);
    }

    /** Types: 0 a structure of i32 and anything, 1 the same, 2 an array of i32, 3 a structure of nothing. */
    private static Support.Mod objects() {
        Support.Mod mod = new Support.Mod();
        mod.type(0x5f, 2, I32, 1, 0x6d, 1);
        mod.type(0x5f, 2, I32, 1, 0x6d, 1);
        mod.type(0x5e, I32, 1);
        mod.type(0x5f, 0);
        mod.type(0x5f, 3, 0x78, 1, 0x77, 1, I64, 1);
        mod.type(0x5e, 0x78, 1);
        mod.type(0x5e, 0x6d, 1);
        return mod;
    }

    private static long objectAlone(Object... code) {
        Support.Mod mod = objects();
        mod.fnWith(mod.type(0x60, 0, 1, I32), b(5, 1, I32, 1, 0x63, 0, 1, 0x63, 2, 1, 0x63, 4, 1, 0x63, 5), code);
        return mod.house().value();
    }

    /** Runs the code alone, and with a value below it, which must still be there then. */
    private static long object(Object... code) {
        long alone = objectAlone(code);
        boolean leaves = false;
        for (int op : b(code)) {
            leaves |= op == 0x0f;
        }
        if (alone < TRAP && !leaves) {
            due("with 100 below", objectAlone(Support.i32(100), b(code), 0x6a), (int) (alone + 100));
        }
        return alone;
    }

    private static void references() {
        due("null is null", object(0xd0, 0x6d, 0xd1), 1);
        due("an object is not", object(0xfb, 1, 0, 0xd1), 0);
        due("small 0 is not", object(0x41, 0, 0xfb, 28, 0xd1), 0);
        due("both null", object(0xd0, 0, 0xd0, 2, 0xd3), 1);
        due("null and small 0", object(0xd0, 0x6d, 0x41, 0, 0xfb, 28, 0xd3), 0);
        due("the same small number", object(0x41, 5, 0xfb, 28, 0x41, 5, 0xfb, 28, 0xd3), 1);
        due("another small number", object(0x41, 5, 0xfb, 28, 0x41, 6, 0xfb, 28, 0xd3), 0);
        due("bit 31 goes", object(Support.i32(MIN), 0xfb, 28, 0x41, 0, 0xfb, 28, 0xd3), 1);
        due("the same object", object(0xfb, 1, 0, 0x22, 1, 0x20, 1, 0xd3), 1);
        due("two objects", object(0xfb, 1, 0, 0xfb, 1, 0, 0xd3), 0);
        due("small 1 and an object", object(0x41, 1, 0xfb, 28, 0xfb, 1, 0, 0xd3), 0);
        due("not null", object(0xfb, 1, 0, 0xd4, 0xd1), 0);
        due("not null, of null", object(0xd0, 0, 0xd4, 0xd1), TRAP + 8);
        due("locals are null", object(0x20, 1, 0xd1), 1);
    }

    private static void referenceBranches() {
        due("on null", object(0x02, I32, 0x41, 7, 0xd0, 0, 0xd5, 0, 0x1a, 0x1a, 0x41, 9, 0x0b), 7);
        due("on null, of an object", object(0x02, I32, 0x41, 7, 0xfb, 1, 0, 0xd5, 0, 0xd1, 0x1a, 0x1a, 0x41, 9, 0x0b), 9);
        due("on not null", object(0x02, 0x64, 0x6d, 0x41, 7, 0xfb, 28, 0xd6, 0, 0x41, 9, 0x0f, 0x0b, 0xfb, 22, 0x6c, 0xfb, 29), 7);
        due("null goes", object(0x41, 40, 0x02, 0x64, 0x6d, 0x41, 2, 0xd0, 0x6d, 0xd6, 0, 0x0f, 0x0b, 0x00), 2);
        due("on not null, of null", object(0x02, 0x64, 0x6d, 0xd0, 0x6d, 0xd6, 0, 0x41, 9, 0x0f, 0x0b, 0x1a, 0x41, 8), 9);
        Support.Mod mod = objects();
        int pair = mod.type(0x60, 0, 2, I32, 0x6d);
        mod.fn(mod.type(0x60, 0, 1, I32), 0x02, pair, 0x42, 1, 0x41, 6, 0xfb, 1, 3, 0xd6, 0,
                0x1a, 0x1a, 0x41, 0, 0xd0, 0x6d, 0x0b, 0xd1, 0x1a);
        due("with the values below", mod.house().value(), 6);
    }

    private static void structures() {
        due("a field", object(0x41, 5, 0xd0, 0x6d, 0xfb, 0, 0, 0xfb, 2, 0, 0), 5);
        due("another field", object(0x41, 5, 0x41, 6, 0xfb, 28, 0xfb, 0, 0, 0xfb, 2, 0, 1, 0xfb, 22, 0x6c, 0xfb, 30), 6);
        due("a field of 0s", object(0xfb, 1, 0, 0xfb, 2, 0, 0), 0);
        due("a field of null", object(0xfb, 1, 0, 0xfb, 2, 0, 1, 0xd1), 1);
        due("of null", object(0xd0, 0, 0xfb, 2, 0, 0), TRAP + 8);
        due("set", object(0xfb, 1, 0, 0x22, 1, 0x41, 9, 0xfb, 5, 0, 0, 0x20, 1, 0xfb, 2, 0, 0), 9);
        due("set of null", object(0xd0, 0, 0x41, 9, 0xfb, 5, 0, 0, 0x41, 0), TRAP + 8);
        due("set by another that is the same", object(0xfb, 1, 1, 0x22, 1, 0x41, 9, 0xfb, 5, 1, 0, 0x20, 1, 0xfb, 2, 0, 0), 9);
        int[] packed = b(Support.i32(0x12345681), Support.i32(0x1234f682), 0x42, 0, 0xfb, 0, 4);
        due("8 bits signed", object(packed, 0xfb, 3, 4, 0), -127);
        due("8 bits unsigned", object(packed, 0xfb, 4, 4, 0), 0x81);
        due("16 bits signed", object(packed, 0xfb, 3, 4, 1), (short) 0xf682);
        due("16 bits unsigned", object(packed, 0xfb, 4, 4, 1), 0xf682);
        int[] above = b(Support.i32(0x141), Support.i32(0x14001), 0x42, 0, 0xfb, 0, 4);
        due("8 bits above 0", object(above, 0xfb, 3, 4, 0), 0x41);
        due("16 bits above 0", object(above, 0xfb, 3, 4, 1), 0x4001);
        due("8 bits set", object(0xfb, 1, 4, 0x22, 3, Support.i32(-1), 0xfb, 5, 4, 0, 0x20, 3, 0xfb, 4, 4, 0), 255);
        due("only them", object(0xfb, 1, 4, 0x22, 3, Support.i32(-1), 0xfb, 5, 4, 0, 0x20, 3, 0xfb, 4, 4, 1), 0);
        due("an i64", object(0x41, 0, 0x41, 0, Support.i64(LEAST), 0xfb, 0, 4, 0xfb, 2, 4, 2, 0x50), 0);
    }

    private static void arrays() {
        int[] three = b(0x41, 1, 0x41, 2, 0x41, 3, 0xfb, 8, 2, 3);
        due("the first one is deepest", object(three, 0x41, 0, 0xfb, 11, 2), 1);
        due("the last", object(three, 0x41, 2, 0xfb, 11, 2), 3);
        due("outside", object(three, 0x41, 3, 0xfb, 11, 2), TRAP + 10);
        due("far outside", object(three, Support.i32(-1), 0xfb, 11, 2), TRAP + 10);
        due("how many", object(three, 0xfb, 15), 3);
        due("none", object(0xfb, 8, 2, 0, 0xfb, 15), 0);
        due("of none", object(0xfb, 8, 2, 0, 0x41, 0, 0xfb, 11, 2), TRAP + 10);
        due("all of one value", object(0x41, 9, 0x41, 5, 0xfb, 6, 2, 0x41, 4, 0xfb, 11, 2), 9);
        due("so many", object(0x41, 9, 0x41, 5, 0xfb, 6, 2, 0xfb, 15), 5);
        due("0s", object(0x41, 5, 0xfb, 7, 2, 0x41, 4, 0xfb, 11, 2), 0);
        due("nulls", object(0x41, 5, 0xfb, 7, 6, 0x41, 4, 0xfb, 11, 6, 0xd1), 1);
        due("of null", object(0xd0, 2, 0x41, 0, 0xfb, 11, 2), TRAP + 8);
        due("null looks ahead", object(0xd0, 2, 0x41, 99, 0xfb, 11, 2), TRAP + 8);
        due("how many of null", object(0xd0, 2, 0xfb, 15), TRAP + 8);
        int[] bytes = b(Support.i32(0x1ff), 0x41, 2, 0xfb, 6, 5);
        due("8 bits signed", object(bytes, 0x41, 1, 0xfb, 12, 5), -1);
        due("8 bits unsigned", object(bytes, 0x41, 1, 0xfb, 13, 5), 255);
        due("8 bits outside", object(bytes, 0x41, 2, 0xfb, 13, 5), TRAP + 10);
    }

    private static void elementsSet() {
        int[] five = b(0x41, 5, 0xfb, 7, 2, 0x22, 2);
        due("set", object(five, 0x41, 1, 0x41, 9, 0xfb, 14, 2, 0x20, 2, 0x41, 1, 0xfb, 11, 2), 9);
        due("set outside", object(five, 0x41, 5, 0x41, 9, 0xfb, 14, 2, 0x41, 0), TRAP + 10);
        due("set in null", object(0xd0, 2, 0x41, 5, 0x41, 9, 0xfb, 14, 2, 0x41, 0), TRAP + 8);
        int[] filled = b(five, 0x41, 1, 0x41, 9, 0x41, 3, 0xfb, 16, 2, 0x20, 2);
        for (int k = 0; k < 5; k++) {
            due("filled " + k, object(filled, 0x41, k, 0xfb, 11, 2), k >= 1 && k <= 3 ? 9 : 0);
        }
        due("to the very end", object(five, 0x41, 2, 0x41, 9, 0x41, 3, 0xfb, 16, 2, 0x20, 2, 0x41, 4, 0xfb, 11, 2), 9);
        due("beyond the end", object(five, 0x41, 3, 0x41, 9, 0x41, 3, 0xfb, 16, 2, 0x41, 0), TRAP + 10);
        due("none at the end", object(five, 0x41, 5, 0x41, 9, 0x41, 0, 0xfb, 16, 2, 0x41, 0), 0);
        due("none beyond the end", object(five, 0x41, 6, 0x41, 9, 0x41, 0, 0xfb, 16, 2, 0x41, 0), TRAP + 10);
        due("they don't come round", object(five, 0x41, 1, 0x41, 9, Support.i32(-1), 0xfb, 16, 2, 0x41, 0), TRAP + 10);
        due("in null", object(0xd0, 2, 0x41, 0, 0x41, 9, 0x41, 0, 0xfb, 16, 2, 0x41, 0), TRAP + 8);
        int[] bytes = b(0x41, 3, 0xfb, 7, 5, 0x22, 4, 0x41, 0, Support.i32(0x3fe), 0x41, 2, 0xfb, 16, 5, 0x20, 4);
        due("8 bits filled", object(bytes, 0x41, 1, 0xfb, 13, 5), 0xfe);
        due("8 bits beside", object(bytes, 0x41, 2, 0xfb, 13, 5), 0);
    }

    private static void casts() {
        int[] small = b(0x41, 5, 0xfb, 28);
        int[] structure = b(0xfb, 1, 0);
        int[] array = b(0xfb, 8, 2, 0);
        int[] nothing = b(0xd0, 0x6d);
        int[][] given = {small, structure, array, nothing};
        int[] targets = {0x6d, 0x6c, 0, 1, 2, 3};
        int[][] want = {{1, 1, 0, 0, 0, 0}, {1, 0, 1, 1, 0, 0}, {1, 0, 0, 0, 1, 0}, {0, 0, 0, 0, 0, 0}};
        for (int k = 0; k < given.length; k++) {
            for (int n = 0; n < targets.length; n++) {
                boolean is = want[k][n] == 1;
                boolean orNull = is || k == 3;
                String what = "given " + k + " to " + targets[n];
                due("20, " + what, object(given[k], 0xfb, 20, targets[n]), is ? 1 : 0);
                due("21, " + what, object(given[k], 0xfb, 21, targets[n]), orNull ? 1 : 0);
                due("22, " + what, object(given[k], 0xfb, 22, targets[n], 0xd1), is ? 0 : TRAP + 9);
                due("23, " + what, object(given[k], 0xfb, 23, targets[n], 0xd1), orNull ? (k == 3 ? 1 : 0) : TRAP + 9);
            }
        }
    }

    private static void smallOnes() {
        due("signed", object(Support.i32(-3), 0xfb, 28, 0xfb, 29), -3);
        due("unsigned", object(Support.i32(-3), 0xfb, 28, 0xfb, 30), MAX - 2);
        due("bit 30 is the sign", object(Support.i32(0x40000000), 0xfb, 28, 0xfb, 29), -0x40000000);
        due("bit 30 unsigned", object(Support.i32(0x40000000), 0xfb, 28, 0xfb, 30), 0x40000000);
        due("bit 31 goes", object(Support.i32(MIN + 4), 0xfb, 28, 0xfb, 29), 4);
        due("signed of null", object(0xd0, 0x6c, 0xfb, 29), TRAP + 8);
        due("unsigned of null", object(0xd0, 0x6c, 0xfb, 30), TRAP + 8);
    }
}

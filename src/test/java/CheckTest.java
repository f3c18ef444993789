/** Promise 3: the check of the instructions' types, of bounds within a function, and of what is there. */
public final class CheckTest {
    private static final int I32 = Support.I32;
    private static final int I64 = Support.I64;
    private static final int[] NOTHING = {};
    private static final int[] I = {I32};

    public static void main(String[] args) {
        stack();
        blocks();
        ifs();
        branches();
        rowsOfWays();
        lostCode();
        bounds();
        choices();
        variables();
        calls();
        memory();
        numerics();
        references();
        referenceBranches();
        sameTypes();
        structures();
        arrays();
        casts();
        Support.end();
    }

    private static int[] b(Object... parts) {
        return Support.b(parts);
    }

    /** The module has types 0 .. and the function's behind them. */
    private static Support.Mod kinds() {
        Support.Mod mod = new Support.Mod();
        mod.type(0x5f, 3, I32, 1, 0x78, 1, 0x6d, 0);         // 0: i32 and 8 bits that can be set, anything
        mod.type(0x5e, I32, 1);                              // 1: array of i32, can be set
        mod.type(0x5e, 0x64, 0x6d, 0);                       // 2: array of not null
        mod.type(0x5f, 1, 0x64, 0, 1);                       // 3: structure of structure 0, not null
        mod.type(0x5f, 3, I32, 1, 0x78, 1, 0x6d, 0);         // 4: the same as 0
        mod.type(0x60, 1, I32, 1, I32);                      // 5
        mod.type(0x60, 1, I32, 2, I32, I32);                 // 6
        mod.type(0x60, 1, 0x6c, 1, 0x6d);                    // 7
        mod.type(0x60, 1, 0x63, 0, 1, 0x63, 4);              // 8
        mod.type(0x5e, 0x77, 1);                             // 9: array of 16 bits
        mod.global(I, 1, 0x41, 0);
        mod.global(I, 0, 0x41, 0);
        mod.global(b(0x6d), 1, 0xd0, 0x6d);
        mod.memory(0, 1);
        mod.table(0, 1);
        return mod;
    }

    private static void due(int want, int[] results, Object... code) {
        Support.Mod mod = kinds();
        int type = mod.type(0x60, 3, I32, I64, 0x6d, u(results), results);
        mod.fnWith(type, b(3, 1, I32, 1, 0x63, 0, 1, 0x63, 1), code);
        StringBuilder text = new StringBuilder("code");
        for (int op : b(code)) {
            text.append(' ').append(Integer.toHexString(op));
        }
        Support.due(text.toString(), Math.min(mod.loaded(), 0), want);
    }

    private static int u(int[] results) {
        int count = 0;
        for (int k = 0; k < results.length; k++) {
            count++;
            if (results[k] == 0x63 || results[k] == 0x64) {
                k++;
            }
        }
        return count;
    }

    private static void good(int[] results, Object... code) {
        due(0, results, code);
    }

    private static void bad(int[] results, Object... code) {
        due(-2, results, code);
    }

    private static void stack() {
        good(I, 0x41, 0);
        bad(I);
        bad(I, 0x42, 0);
        bad(I, 0x41, 0, 0x41, 0);
        bad(NOTHING, 0x41, 0);
        bad(NOTHING, 0x1a);
        good(b(I32, I64), 0x41, 0, 0x42, 0);
        bad(b(I32, I64), 0x42, 0, 0x41, 0);
        good(NOTHING, 0x01);
        good(I, 0x41, 0, 0x0f);
        good(I, 0x42, 0, 0x41, 0, 0x0f);
        bad(I, 0x0f);
    }

    private static void blocks() {
        good(I, 0x02, I32, 0x41, 0, 0x0b);
        bad(I, 0x02, I32, 0x0b);
        bad(I, 0x02, I32, 0x42, 0, 0x0b);
        bad(I, 0x02, 0x40, 0x41, 0, 0x0b);
        bad(I, 0x41, 0, 0x02, 0x40, 0x1a, 0x0b, 0x41, 0);
        bad(I, 0x41, 0, 0x02, I32, 0x0b);
        good(I, 0x41, 0, 0x02, 5, 0x0b);
        good(I, 0x41, 0, 0x03, 5, 0x0b);
        bad(I, 0x02, 5, 0x0b);
        bad(I, 0x42, 0, 0x02, 5, 0x0b);
        good(b(I32, I32), 0x41, 0, 0x02, 6, 0x41, 1, 0x0b);
        bad(b(I32, I32), 0x41, 0, 0x02, 6, 0x0b);
        good(b(0x6d), 0xd0, 0x6c, 0x02, 7, 0x0b);
        bad(b(0x6d), 0xd0, 0x6d, 0x02, 7, 0x0b);
    }

    private static void ifs() {
        good(NOTHING, 0x41, 0, 0x04, 0x40, 0x0b);
        bad(NOTHING, 0x42, 0, 0x04, 0x40, 0x0b);
        bad(NOTHING, 0x04, 0x40, 0x0b);
        bad(I, 0x41, 0, 0x04, I32, 0x41, 0, 0x0b);
        good(I, 0x41, 0, 0x04, I32, 0x41, 0, 0x05, 0x41, 1, 0x0b);
        bad(I, 0x41, 0, 0x04, I32, 0x41, 0, 0x05, 0x0b);
        bad(I, 0x41, 0, 0x04, I32, 0x05, 0x41, 0, 0x0b);
        bad(I, 0x41, 0, 0x04, I32, 0x41, 0, 0x05, 0x42, 0, 0x0b);
        good(I, 0x41, 5, 0x41, 0, 0x04, 5, 0x0b);
        bad(b(I32, I32), 0x41, 5, 0x41, 0, 0x04, 6, 0x41, 6, 0x0b);
        good(b(I32, I32), 0x41, 5, 0x41, 0, 0x04, 6, 0x41, 6, 0x05, 0x41, 7, 0x0b);
        bad(b(0x6d), 0xd0, 0x6c, 0x41, 0, 0x04, 7, 0x0b);
        good(b(0x6d), 0xd0, 0x6c, 0x41, 0, 0x04, 7, 0x05, 0x0b);
        good(b(0x6d), 0xd0, 0, 0x41, 0, 0x04, 8, 0x0b);
        good(I, 0x41, 0, 0x04, I32, 0x00, 0x05, 0x41, 1, 0x0b);
        bad(I, 0x41, 0, 0x04, I32, 0x00, 0x05, 0x0b);
    }

    private static void branches() {
        good(NOTHING, 0x0c, 0);
        bad(NOTHING, 0x0c, 1);
        bad(NOTHING, 0x0c, 0xff, 0xff, 0xff, 0xff, 0x0f);
        good(NOTHING, 0x02, 0x40, 0x0c, 1, 0x0b);
        bad(NOTHING, 0x02, 0x40, 0x0b, 0x0c, 1);
        good(I, 0x02, I32, 0x41, 0, 0x0c, 0, 0x0b);
        bad(I, 0x02, I32, 0x0c, 0, 0x0b);
        good(I, 0x02, I32, 0x42, 0, 0x41, 0, 0x0c, 0, 0x0b);
        good(I, 0x41, 0, 0x03, 5, 0x0c, 0, 0x0b);
        good(I, 0x03, I32, 0x0c, 0, 0x0b);
        bad(I, 0x03, 5, 0x0c, 0, 0x0b);
        bad(I, 0x0c, 0);
        good(I, 0x41, 0, 0x41, 0, 0x0d, 0);
        bad(I, 0x41, 0, 0x0d, 0);
        bad(I, 0x41, 0, 0x42, 0, 0x0d, 0);
        bad(b(0x6c), 0x02, 0x6d, 0xd0, 0x6c, 0x41, 0, 0x0d, 0, 0x0b);
        bad(b(0x6d), 0x02, 0x6d, 0xd0, 0x6c, 0x41, 0, 0x0d, 0, 0xfb, 29, 0x1a, 0xd0, 0x6d, 0x0b);
        good(b(0x6d), 0x02, 0x6d, 0xd0, 0x6c, 0x41, 0, 0x0d, 0, 0x0b);
    }

    private static void rowsOfWays() {
        good(NOTHING, 0x41, 0, 0x0e, 0, 0);
        good(NOTHING, 0x41, 0, 0x0e, 2, 0, 0, 0);
        bad(NOTHING, 0x41, 0, 0x0e, 1, 1, 0);
        bad(NOTHING, 0x41, 0, 0x0e, 1, 0, 1);
        bad(NOTHING, 0x0e, 0, 0);
        bad(NOTHING, 0x42, 0, 0x0e, 0, 0);
        good(I, 0x02, I32, 0x41, 0, 0x41, 0, 0x0e, 1, 0, 1, 0x0b);
        bad(I, 0x02, 0x40, 0x41, 0, 0x41, 0, 0x0e, 1, 0, 1, 0x0b, 0x41, 0);
        bad(I, 0x02, 0x40, 0x00, 0x0e, 1, 0, 1, 0x0b, 0x41, 0);
        bad(I, 0x02, I64, 0x41, 0, 0x41, 0, 0x0e, 1, 0, 1, 0x0b, 0x1a, 0x41, 0);
        good(I, 0x02, I64, 0x00, 0x0e, 1, 0, 1, 0x0b, 0x1a, 0x41, 0);
        good(b(0x6d), 0x02, 0x6c, 0xd0, 0x6c, 0x41, 0, 0x0e, 1, 0, 1, 0x0b);
        bad(b(0x6d), 0x02, 0x6c, 0xd0, 0x6d, 0x41, 0, 0x0e, 1, 0, 1, 0x0b);
        good(I, 0x41, 0, 0x03, 5, 0x41, 0, 0x0e, 0, 0, 0x0b);
        good(NOTHING, 0x41, 0, 0x0e, 70, Support.many(70, 0), 0);
    }

    private static void lostCode() {
        for (int[] way : new int[][] {b(0x00), b(0x41, 0, 0x0c, 0), b(0x41, 0, 0x41, 0, 0x0e, 0, 0), b(0x41, 0, 0x0f)}) {
            good(I, way);
            good(I, way, 0x6a);
            good(I, way, 0x41, 0, 0x6a);
            bad(I, way, 0x42, 0, 0x6a);
            bad(I, way, 0x42, 0);
            bad(I, way, 0x41, 0, 0x41, 0);
            good(I, way, 0x1a, 0x1a, 0x1a);
            good(I, way, 0xfb, 15);
            good(I, way, 0xd3);
            bad(I, way, 0x20, 99);
            bad(I, way, 0x42, 0, 0xd1);
        }
        good(I, 0x02, 0x40, 0x00, 0x0b, 0x41, 0);
        bad(I, 0x02, 0x40, 0x00, 0x0b);
        bad(I, 0x41, 0, 0x02, 0x40, 0x00, 0x0b, 0x41, 0, 0x41, 0, 0x6a);
        good(I, 0x00, 0x02, 5, 0x0b);
        good(I, 0x00, 0x41, 0, 0x0d, 0);
        good(b(I32, I32), 0x00, 0x41, 0, 0x0d, 0);
        bad(b(I32, I64), 0x00, 0x41, 0, 0x0d, 0, 0x6a, 0x42, 0);
        good(b(0x6d), 0x00, 0xd4);
        bad(I, 0x00, 0xd4);
        bad(I, 0x00, 0xd4, 0x45);
        good(b(0x64, 0), 0x00, 0xd4);
        good(NOTHING, 0x00, 0xd4, 0xfb, 15, 0x1a);
        good(NOTHING, 0x00, 0xd4, 0xfb, 2, 0, 0, 0x1a);
    }

    private static void bounds() {
        good(NOTHING, Support.many(100, 0x41, 0), Support.many(100, 0x1a));
        bad(NOTHING, Support.many(101, 0x41, 0), Support.many(101, 0x1a));
        bad(NOTHING, 0x00, Support.many(101, 0x41, 0));
        good(NOTHING, Support.many(60, 0x41, 0), 0x02, 0x40, Support.many(40, 0x41, 0), Support.many(40, 0x1a), 0x0b, Support.many(60, 0x1a));
        bad(NOTHING, Support.many(60, 0x41, 0), 0x02, 0x40, Support.many(41, 0x41, 0), Support.many(41, 0x1a), 0x0b, Support.many(60, 0x1a));
        good(NOTHING, Support.many(98, 0x41, 0), 0x02, 6, 0x41, 0, 0x0b, Support.many(99, 0x1a));
        bad(NOTHING, Support.many(100, 0x41, 0), 0x02, 6, 0x00, 0x0b, Support.many(101, 0x1a));
        good(NOTHING, Support.many(99, 0x02, 0x40), Support.many(99, 0x0b));
        bad(NOTHING, Support.many(100, 0x02, 0x40), Support.many(100, 0x0b));
        good(NOTHING, Support.many(98, 0x02, 0x40), 0x03, 0x40, 0x0b, 0x41, 0, 0x04, 0x40, 0x0b, Support.many(98, 0x0b));
        bad(NOTHING, 0x00, Support.many(100, 0x03, 0x40), Support.many(100, 0x0b));
        bad(NOTHING, Support.many(1000, 0x02, 0x40), Support.many(1000, 0x0b));
    }

    private static void choices() {
        good(I, 0x41, 1, 0x41, 2, 0x41, 0, 0x1b);
        good(b(I64), 0x42, 1, 0x42, 2, 0x41, 0, 0x1b);
        bad(I, 0x41, 1, 0x42, 2, 0x41, 0, 0x1b);
        bad(b(I64), 0x41, 1, 0x42, 2, 0x41, 0, 0x1b);
        bad(b(I64), 0x42, 1, 0x41, 2, 0x41, 0, 0x1b);
        bad(I, 0x41, 1, 0x41, 2, 0x42, 0, 0x1b);
        bad(b(0x6d), 0xd0, 0x6d, 0xd0, 0x6d, 0x41, 0, 0x1b);
        bad(I, 0x41, 2, 0x41, 0, 0x1b);
        good(I, 0x00, 0x1b);
        good(b(I64), 0x00, 0x1b);
        good(I, 0x00, 0x41, 1, 0x41, 0, 0x1b);
        bad(b(I64), 0x00, 0x41, 1, 0x41, 0, 0x1b);
        good(b(0x6d), 0x00, 0x1b);
        bad(b(0x6d), 0x00, 0xd0, 0x6d, 0x41, 0, 0x1b);
        bad(I, 0x00, 0xd4, 0x41, 0, 0x1b);
        good(b(I64), 0x00, 0x42, 0, 0x41, 0, 0x1b);
    }

    private static void variables() {
        good(I, 0x20, 0);
        good(b(I64), 0x20, 1);
        good(b(0x6d), 0x20, 2);
        good(b(0x6d), 0x20, 4);
        bad(b(0x63, 0), 0x20, 2);
        bad(I, 0x20, 6);
        good(NOTHING, 0x41, 0, 0x21, 0);
        bad(NOTHING, 0x42, 0, 0x21, 0);
        bad(NOTHING, 0x41, 0, 0x21, 6);
        good(NOTHING, 0x20, 4, 0x21, 2);
        bad(NOTHING, 0x20, 2, 0x21, 4);
        good(I, 0x41, 0, 0x22, 0);
        bad(I, 0x22, 0);
        bad(b(0x63, 0), 0x20, 4, 0x22, 2);
        good(I, 0x23, 0);
        bad(I, 0x23, 3);
        good(NOTHING, 0x41, 0, 0x24, 0);
        bad(NOTHING, 0x41, 0, 0x24, 1);
        bad(NOTHING, 0x42, 0, 0x24, 0);
        good(NOTHING, 0x20, 4, 0x24, 2);
    }

    private static void calls() {
        good(NOTHING, 0x41, 0, 0x42, 0, 0xd0, 0x6d, 0x10, 0);
        good(NOTHING, 0x41, 0, 0x42, 0, 0xd0, 0, 0x10, 0);
        bad(NOTHING, 0x41, 0, 0x42, 0, 0x10, 0);
        bad(NOTHING, 0x42, 0, 0x41, 0, 0xd0, 0x6d, 0x10, 0);
        bad(NOTHING, 0x10, 1);
        good(I, 0x41, 0, 0x41, 0, 0x11, 5, 0);
        bad(I, 0x41, 0, 0x42, 0, 0x11, 5, 0);
        bad(I, 0x41, 0, 0x11, 5, 0);
        bad(I, 0x00, 0x11, 0, 0);
        bad(I, 0x00, 0x11, 99, 0);
        Support.due("a function that is not there", Support.one(NOTHING, NOTHING, 0x10, 1).loaded(), -2);
        Support.due("far from there", Support.one(NOTHING, NOTHING, 0x10, 0xff, 0xff, 0xff, 0xff, 0x0f).loaded(), -2);
        Support.due("without a table", Support.one(NOTHING, NOTHING, 0x00, 0x11, 0, 0).loaded(), -2);
    }

    private static void memory() {
        int[] width = {2, 3, -1, -1, 0, 0, 1, 1, 0, 0, 1, 1, 2, 2, 2, 3, -1, -1, 0, 1, 0, 1, 2};
        for (int op = 0x28; op <= 0x3e; op++) {
            if (width[op - 0x28] < 0) {
                continue;
            }
            boolean wide = op == 0x29 || op >= 0x30 && op <= 0x35 || op == 0x37 || op >= 0x3c;
            int type = wide ? I64 : I32;
            int value = wide ? 0x42 : 0x41;
            int other = wide ? 0x41 : 0x42;
            int align = width[op - 0x28];
            if (op < 0x36) {
                good(b(type), 0x41, 0, op, align, 0);
                bad(b(type), 0x41, 0, op, align + 1, 0);
                bad(b(type), 0x41, 0, op, 0xff, 0xff, 0xff, 0xff, 0x0f, 0);
                bad(b(wide ? I32 : I64), 0x41, 0, op, align, 0);
                bad(b(type), 0x42, 0, op, align, 0);
            } else {
                good(NOTHING, 0x41, 0, value, 0, op, align, 0);
                bad(NOTHING, 0x41, 0, value, 0, op, align + 1, 0);
                bad(NOTHING, 0x41, 0, other, 0, op, align, 0);
                bad(NOTHING, 0x42, 0, value, 0, op, align, 0);
            }
        }
        good(I, 0x3f, 0);
        good(I, 0x41, 0, 0x40, 0);
        bad(I, 0x42, 0, 0x40, 0);
        Support.due("pages without a memory", Support.one(NOTHING, I, 0x3f, 0).loaded(), -2);
        Support.due("more without a memory", Support.one(NOTHING, I, 0x41, 0, 0x40, 0).loaded(), -2);
    }

    private static void numerics() {
        for (int op = 0x45; op <= 0xc4; op++) {
            boolean none = op >= 0x5b && op <= 0x66 || op >= 0x8b && op <= 0xa6 || op >= 0xa8 && op <= 0xab || op >= 0xae && op <= 0xbf;
            if (none) {
                continue;
            }
            boolean fromWide = op >= 0x50 && op <= 0x5a || op >= 0x79 && op <= 0x8a || op == 0xa7 || op >= 0xc2;
            boolean toWide = op >= 0x79 && op <= 0x8a || op == 0xac || op == 0xad || op >= 0xc2;
            boolean single = op == 0x45 || op == 0x50 || op >= 0x67 && op <= 0x69 || op >= 0x79 && op <= 0x7b || op >= 0xa7;
            int[] value = fromWide ? b(0x42, 0) : b(0x41, 0);
            int[] other = fromWide ? b(0x41, 0) : b(0x42, 0);
            int[] to = toWide ? b(I64) : b(I32);
            int[] wrong = toWide ? b(I32) : b(I64);
            int[] values = single ? value : b(value, value);
            good(to, values, op);
            bad(wrong, values, op);
            bad(to, single ? other : b(value, other), op);
            bad(to, single ? NOTHING : value, op);
            bad(NOTHING, single ? other : b(value, other), op, 0x1a);
            bad(NOTHING, single ? NOTHING : value, op, 0x1a);
            bad(to, single ? b(0xd0, 0x6d) : b(0xd0, 0x6d, value), op);
        }
    }

    private static void references() {
        good(b(0x6d), 0xd0, 0x6d);
        good(b(0x6d), 0xd0, 0x6c);
        good(b(0x6d), 0xd0, 0);
        bad(b(0x6c), 0xd0, 0x6d);
        bad(b(0x63, 0), 0xd0, 0x6d);
        bad(b(0x63, 0), 0xd0, 0x6c);
        bad(b(0x6c), 0xd0, 0);
        bad(b(0x63, 0), 0xd0, 1);
        bad(b(0x64, 0), 0xd0, 0);
        bad(b(0x6d), 0xd0, 5);
        bad(b(0x6d), 0xd0, 50);
        good(I, 0xd0, 0x6d, 0xd1);
        bad(I, 0x41, 0, 0xd1);
        good(I, 0xd0, 0x6c, 0xd0, 0, 0xd3);
        bad(I, 0xd0, 0x6c, 0x41, 0, 0xd3);
        bad(I, 0x41, 0, 0xd0, 0x6c, 0xd3);
        good(b(0x64, 0), 0xd0, 0, 0xd4);
        good(b(0x64, 0x6d), 0xd0, 0, 0xd4);
        bad(b(0x64, 1), 0xd0, 0, 0xd4);
        bad(I, 0x41, 0, 0xd4);
    }

    private static void referenceBranches() {
        good(NOTHING, 0xd0, 0, 0xd5, 0, 0x1a);
        bad(NOTHING, 0xd0, 0, 0xd5, 0);
        bad(NOTHING, 0x41, 0, 0xd5, 0, 0x1a);
        bad(NOTHING, 0xd0, 0, 0xd5, 1, 0x1a);
        good(I, 0x41, 0, 0xd0, 0, 0xd5, 0, 0x1a);
        bad(I, 0xd0, 0, 0xd5, 0, 0x1a);
        good(b(0x64, 0), 0x02, 0x40, 0xd0, 0, 0xd5, 0, 0x0f, 0x0b, 0x00);
        good(b(0x64, 0), 0xd0, 0, 0xd6, 0, 0x00);
        good(b(0x6d), 0xd0, 0, 0xd6, 0, 0xd0, 0);
        bad(b(0x64, 1), 0xd0, 0, 0xd6, 0, 0x00);
        bad(NOTHING, 0xd0, 0, 0xd6, 0);
        bad(I, 0xd0, 0, 0xd6, 0, 0x41, 0);
        good(b(I32, 0x6d), 0x41, 0, 0xd0, 0, 0xd6, 0, 0xd0, 0);
        bad(b(I32, 0x6d), 0xd0, 0, 0xd6, 0, 0x41, 0, 0xd0, 0);
        bad(b(I32, 0x6d), 0x42, 0, 0xd0, 0, 0xd6, 0, 0x1a, 0x41, 0, 0xd0, 0);
        good(b(0x6d), 0x00, 0xd6, 0, 0xd0, 0x6d);
        bad(I, 0x00, 0xd6, 0, 0x41, 0);
        bad(b(0x6d), 0x41, 0, 0xd6, 0, 0xd0, 0x6d);
        good(b(0x6d), 0xd0, 0x6c, 0x03, 7, 0xd6, 0, 0xd0, 0x6d, 0x0b);
        bad(b(0x6d), 0xd0, 0x6c, 0x03, 7, 0x1a, 0xd0, 0x6d, 0xd6, 0, 0xd0, 0x6d, 0x0b);
    }

    private static void sameTypes() {
        good(b(0x63, 4), 0xd0, 0);
        good(b(0x63, 0), 0xd0, 4);
        bad(b(0x63, 3), 0xd0, 0);
        int[] structure = b(0x5f, 1, 0x63, 0, 0);
        int[] second = b(0x5f, 1, 0x63, 1, 0);
        int[] firstAgain = b(0x5f, 1, 0x63, 0, 0);
        dueSame("both of themselves", 1, structure, second);
        dueSame("itself, and one before", 0, structure, firstAgain);
        dueSame("both of ones before that are the same", 1, b(0x5f, 0), b(0x5f, 0), b(0x5e, 0x63, 0, 1), b(0x5e, 0x63, 1, 1));
        dueSame("of ones before that are not the same", 0, b(0x5f, 0), b(0x5f, 1, I32, 0), b(0x5e, 0x63, 0, 1), b(0x5e, 0x63, 1, 1));
        dueSame("can be set or not", 0, b(0x5e, I32, 0), b(0x5e, I32, 1));
        dueSame("null or not", 0, b(0x5e, 0x63, 0x6d, 0), b(0x5e, 0x64, 0x6d, 0));
        dueSame("two ways to write it", 1, b(0x5e, 0x63, 0x6d, 0), b(0x5e, 0x6d, 0));
        dueSame("small or anything", 0, b(0x5e, 0x6c, 0), b(0x5e, 0x6d, 0));
        dueSame("array or structure", 0, b(0x5e, I32, 0), b(0x5f, 1, I32, 0));
        dueSame("8 bits or 16", 0, b(0x5e, 0x77, 0), b(0x5e, 0x78, 0));
        dueSame("more fields", 0, b(0x5f, 1, I32, 0), b(0x5f, 2, I32, 0, I32, 0));
        dueSame("the order of fields", 0, b(0x5f, 2, I64, 0, I32, 0), b(0x5f, 2, I32, 0, I64, 0));
        dueSame("a number, or anything", 0, b(0x5e, 0x63, 0, 1), b(0x5e, 0x6d, 1));
    }

    /** Whether a null of the type before the last can stand for the last one. */
    private static void dueSame(String what, int want, int[]... types) {
        Support.Mod mod = new Support.Mod();
        for (int[] type : types) {
            mod.type(type);
        }
        int last = types.length - 1;
        int function = mod.type(0x60, 0, 1, 0x63, last);
        mod.fn(function, 0xd0, last - 1);
        Support.due(what, mod.loaded() == 0 ? 1 : 0, want);
    }

    private static void structures() {
        int[] made = b(0x41, 0, 0x41, 0, 0xd0, 0x6d, 0xfb, 0, 0);
        good(b(0x64, 0), made);
        good(b(0x64, 4), made);
        bad(b(0x64, 0), 0x41, 0, 0xd0, 0x6d, 0xfb, 0, 0);
        bad(b(0x64, 0), 0x41, 0, 0x42, 0, 0xd0, 0x6d, 0xfb, 0, 0);
        bad(b(0x64, 0), 0xfb, 0, 1);
        bad(b(0x64, 0), 0x00, 0xfb, 0, 1);
        bad(b(0x64, 0), 0x00, 0xfb, 0, 99);
        good(b(0x64, 0), 0xfb, 1, 0);
        bad(b(0x64, 3), 0xfb, 1, 3);
        good(b(0x64, 3), made, 0xfb, 0, 3);
        bad(b(0x64, 3), 0xd0, 0, 0xfb, 0, 3);
        good(I, 0x20, 4, 0xfb, 2, 0, 0);
        bad(I, 0x20, 4, 0xfb, 3, 0, 0);
        bad(I, 0x20, 4, 0xfb, 4, 0, 0);
        bad(I, 0x20, 4, 0xfb, 2, 0, 1);
        good(I, 0x20, 4, 0xfb, 3, 0, 1);
        good(I, 0x20, 4, 0xfb, 4, 4, 1);
        good(b(0x6d), 0x20, 4, 0xfb, 2, 0, 2);
        bad(I, 0x20, 4, 0xfb, 2, 0, 3);
        bad(I, 0x20, 2, 0xfb, 2, 0, 0);
        good(NOTHING, 0x20, 4, 0x41, 0, 0xfb, 5, 0, 0);
        good(NOTHING, 0x20, 4, 0x41, 0, 0xfb, 5, 0, 1);
        bad(NOTHING, 0x20, 4, 0x42, 0, 0xfb, 5, 0, 1);
        bad(NOTHING, 0x20, 4, 0xd0, 0x6d, 0xfb, 5, 0, 2);
        bad(NOTHING, 0x20, 4, 0x41, 0, 0xfb, 5, 0, 3);
        good(NOTHING, 0xd0, 3, made, 0xfb, 5, 3, 0);
        bad(NOTHING, 0xd0, 3, 0x20, 4, 0xfb, 5, 3, 0);
    }

    private static void arrays() {
        good(b(0x64, 1), 0x41, 0, 0x41, 3, 0xfb, 6, 1);
        bad(b(0x64, 1), 0x42, 0, 0x41, 3, 0xfb, 6, 1);
        bad(b(0x64, 1), 0x41, 0, 0x42, 3, 0xfb, 6, 1);
        bad(b(0x64, 0), 0x00, 0xfb, 6, 0);
        good(b(0x64, 1), 0x41, 3, 0xfb, 7, 1);
        bad(b(0x64, 2), 0x41, 3, 0xfb, 7, 2);
        good(b(0x64, 9), 0x41, 3, 0xfb, 7, 9);
        good(b(0x64, 1), 0xfb, 8, 1, 0);
        good(b(0x64, 1), Support.many(64, 0x41, 0), 0xfb, 8, 1, 64);
        bad(b(0x64, 1), Support.many(65, 0x41, 0), 0xfb, 8, 1, 65);
        bad(b(0x64, 1), 0x41, 0, 0xfb, 8, 1, 2);
        bad(b(0x64, 1), 0x42, 0, 0xfb, 8, 1, 1);
        bad(b(0x64, 1), 0x00, 0xfb, 8, 1, 0xff, 0xff, 0xff, 0xff, 0x0f);
        good(I, 0x20, 5, 0x41, 0, 0xfb, 11, 1);
        bad(I, 0x20, 5, 0x41, 0, 0xfb, 12, 1);
        bad(I, 0x20, 5, 0x42, 0, 0xfb, 11, 1);
        good(I, 0xd0, 9, 0x41, 0, 0xfb, 12, 9);
        good(I, 0xd0, 9, 0x41, 0, 0xfb, 13, 9);
        bad(I, 0xd0, 9, 0x41, 0, 0xfb, 11, 9);
        good(b(0x64, 0x6d), 0xd0, 2, 0x41, 0, 0xfb, 11, 2);
        good(NOTHING, 0x20, 5, 0x41, 0, 0x41, 0, 0xfb, 14, 1);
        bad(NOTHING, 0x20, 5, 0x41, 0, 0x42, 0, 0xfb, 14, 1);
        bad(NOTHING, 0xd0, 2, 0x41, 0, 0x41, 0, 0xfb, 28, 0xfb, 14, 2);
        good(NOTHING, 0x20, 5, 0x41, 0, 0x41, 0, 0x41, 0, 0xfb, 16, 1);
        bad(NOTHING, 0x20, 5, 0x41, 0, 0x41, 0, 0xfb, 16, 1);
        bad(NOTHING, 0xd0, 2, 0x41, 0, 0x41, 0, 0xfb, 28, 0x41, 0, 0xfb, 16, 2);
        good(I, 0x20, 5, 0xfb, 15);
        Support.Mod zero = new Support.Mod();
        zero.type(0x5e, I32, 1);
        Support.due("array's type 0", Support.oneWith(zero, NOTHING, I, 0xfb, 8, 0, 0, 0xfb, 15).loaded(), 0);
        good(I, 0xd0, 2, 0xd4, 0xfb, 15);
        bad(I, 0x20, 4, 0xfb, 15);
        bad(I, 0x20, 2, 0xfb, 15);
        bad(I, 0x41, 0, 0xfb, 15);
    }

    private static void casts() {
        good(I, 0x20, 2, 0xfb, 20, 0);
        good(I, 0x20, 4, 0xfb, 21, 1);
        good(I, 0xd0, 0x6c, 0xfb, 20, 0);
        bad(I, 0x41, 0, 0xfb, 20, 0);
        bad(I, 0x20, 2, 0xfb, 20, 5);
        bad(I, 0x20, 2, 0xfb, 21, 50);
        good(b(0x64, 0), 0x20, 2, 0xfb, 22, 0);
        bad(b(0x64, 0), 0x20, 2, 0xfb, 23, 0);
        good(b(0x63, 4), 0x20, 2, 0xfb, 23, 0);
        bad(b(0x63, 1), 0x20, 2, 0xfb, 23, 0);
        good(b(0x6c), 0x20, 4, 0xfb, 22, 0x6c);
        good(b(0x64, 0x6c), 0x41, 0, 0xfb, 28);
        bad(b(0x64, 0x6c), 0x42, 0, 0xfb, 28);
        good(I, 0xd0, 0x6c, 0xfb, 29);
        good(I, 0xd0, 0x6c, 0xfb, 30);
        bad(I, 0xd0, 0x6d, 0xfb, 29);
        bad(I, 0xd0, 0, 0xfb, 30);
    }
}

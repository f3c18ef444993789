import java.util.ArrayList;
import java.util.List;

/** The boundary cases of promise 3 in the check: types that are the same, smaller ones, CHECK's bounds, what can't be come to. */
public final class EdgesOfCheckTest {
    private static final int I32 = Support.I32;
    private static final int I64 = Support.I64;
    private static final int[] NOTHING = {};
    private static final int[] I = {I32};

    public static void main(String[] args) {
        whatIsSmaller();
        typesThatAreTheSame();
        sameFunctionTypes();
        sameTypesInLongRows();
        blockTypes();
        lastBlockType();
        ifsWithoutElse();
        waysOut();
        waysOfALoop();
        loopsToAnotherType();
        waysOfARow();
        hundredValues();
        hundredValuesByEveryInstruction();
        hundredValuesInBlocks();
        hundredValuesThatCantBeComeTo();
        hundredBlocks();
        hundredBlocksThatCantBeComeTo();
        whatCantBeComeTo();
        whatCanBeComeToAgain();
        unknownValues();
        unknownReferences();
        choices();
        numbersThatMustBeThere();
        typesThatMustBeThere();
        whatCanBeSet();
        memoryAndTable();
        alignment();
        fieldsOfBits();
        defaults();
        elementsTold();
        lengths();
        castsAndSmallOnes();
        branchesLeaveTheTypesOfTheEnd();
        lastTypeOfTheBlock();
        Support.end();
    }

    private static void due(String what, long got, long want) {
        Support.due(what, got, want);
    }

    private static int[] b(Object... parts) {
        return Support.b(parts);
    }

    /** Types 0, 1 the same structure, 2 an array of it, 3 a structure of nothing; 4 .. for blocks. */
    private static Support.Mod kinds() {
        Support.Mod mod = new Support.Mod().memory(0, 1).table(0, 1);
        mod.type(0x5f, 3, I32, 1, 0x78, 1, 0x6d, 0);
        mod.type(0x5f, 3, I32, 1, 0x78, 1, 0x6d, 0);
        mod.type(0x5e, 0x63, 0, 1);
        mod.type(0x5f, 0);
        mod.type(0x60, 1, I32, 1, I32);
        mod.type(0x60, 0, 16, Support.many(16, I32));
        mod.type(0x60, 16, Support.many(16, I32), 16, Support.many(16, I32));
        mod.type(0x60, 2, I32, I64, 2, I32, I64);
        mod.type(0x60, 1, 0x6c, 1, 0x6d);
        mod.global(I, 1, 0x41, 0);
        return mod;
    }

    /** A function of an i32, from kinds, of these results (each a row of bytes). */
    private static int answer(List<int[]> results, Object... code) {
        Support.Mod mod = kinds();
        mod.fn(mod.type(0x60, 1, I32, Support.row(results)), code);
        return Math.min(mod.loaded(), 0);
    }

    private static void good(String what, List<int[]> results, Object... code) {
        due(what, answer(results, code), 0);
    }

    private static void bad(String what, List<int[]> results, Object... code) {
        due(what, answer(results, code), -2);
    }

    private static final List<int[]> NONE = List.of();
    private static final List<int[]> ONE = List.of(I);
    private static final List<int[]> LONG = List.of(b(I64));
    private static final List<int[]> ANY = List.of(b(0x6d));

    /* "SMALLER (or the same): a reference that is not null than the same or null; to a type's number .. ; to a small one than to anything." */
    private static void whatIsSmaller() {
        int[][] types = {b(I32), b(I64), b(0x6d), b(0x64, 0x6d), b(0x6c), b(0x64, 0x6c), b(0x63, 0), b(0x64, 0), b(0x63, 1), b(0x64, 1), b(0x63, 2), b(0x64, 2), b(0x63, 3), b(0x64, 3), b(0x63, 0x6d), b(0x63, 0x6c)};
        /* The target (0 and 1 are the same structure), and whether it may be null. */
        int[] target = {-1, -2, 100, 100, 101, 101, 0, 0, 0, 0, 2, 2, 3, 3, 100, 101};
        boolean[] orNull = {false, false, true, false, true, false, true, false, true, false, true, false, true, false, true, true};
        for (int from = 0; from < types.length; from++) {
            for (int to = 0; to < types.length; to++) {
                boolean reference = target[from] >= 0 && target[to] >= 0;
                boolean fits = target[from] == target[to] || reference && target[to] == 100;
                fits &= !reference || !orNull[from] || orNull[to];
                dueFit("from " + from + " to " + to, types[from], types[to], fits ? 0 : -2);
            }
        }
    }

    /* A parameter's value as a result, in a local, in a call, in a field, and as an end of a block. */
    private static void dueFit(String what, int[] from, int[] to, int want) {
        Support.Mod result = kinds();
        result.fn(result.type(0x60, 1, from, 1, to), 0x20, 0);
        due(what + " as a result", result.loaded(), want);
        Support.Mod local = kinds();
        local.fn(local.type(0x60, 2, from, to, 0), 0x20, 0, 0x21, 1);
        due(what + " in a local", local.loaded(), want);
        Support.Mod call = kinds();
        call.fn(call.type(0x60, 1, to, 0));
        call.fn(call.type(0x60, 1, from, 0), 0x20, 0, 0x10, 0);
        due(what + " in a call", call.loaded(), want);
        Support.Mod field = kinds();
        int holder = field.type(0x5f, 1, to, 1);
        field.fn(field.type(0x60, 1, from, 0), 0x20, 0, 0xfb, 0, holder, 0x1a);
        due(what + " in a field", field.loaded(), want);
        Support.Mod block = kinds();
        block.fn(block.type(0x60, 1, from, 0), 0x02, to, 0x20, 0, 0x0c, 0, 0x0b, 0x1a);
        due(what + " at an end", block.loaded(), want);
    }

    private static int sameBy(int first, int second, int[]... types) {
        Support.Mod mod = new Support.Mod();
        for (int[] type : types) {
            mod.type(type);
        }
        mod.fn(mod.type(0x60, 1, 0x63, first, 1, 0x63, second), 0x20, 0);
        return mod.loaded() == 0 ? 1 : 0;
    }

    private static void dueSame(String what, int want, int[]... types) {
        int last = types.length - 1;
        due(what, sameBy(last - 1, last, types), want);
        due(what + ", the other way", sameBy(last, last - 1, types), want);
    }

    /* "THE SAME if all is the same in them, where a number within stands in both for the type itself, or in both for one before it, and these are the same". */
    private static void typesThatAreTheSame() {
        dueSame("of nothing", 1, b(0x5f, 0), b(0x5f, 0));
        dueSame("of an i32", 1, b(0x5f, 1, I32, 0), b(0x5f, 1, I32, 0));
        dueSame("of a number and another", 0, b(0x5f, 1, I32, 0), b(0x5f, 1, I64, 0));
        dueSame("can be set or not", 0, b(0x5f, 1, I32, 0), b(0x5f, 1, I32, 1));
        dueSame("the second can be set or not", 0, b(0x5f, 2, I32, 0, I32, 0), b(0x5f, 2, I32, 0, I32, 1));
        dueSame("more of them", 0, b(0x5f, 1, I32, 0), b(0x5f, 2, I32, 0, I32, 0));
        dueSame("none or one", 0, b(0x5f, 0), b(0x5f, 1, I32, 0));
        dueSame("an array or a structure of one", 0, b(0x5f, 1, I32, 0), b(0x5e, I32, 0));
        dueSame("8 or 16 bits", 0, b(0x5e, 0x78, 0), b(0x5e, 0x77, 0));
        dueSame("8 bits or an i32", 0, b(0x5e, 0x78, 0), b(0x5e, I32, 0));
        dueSame("both of themselves", 1, b(0x5e, 0x63, 0, 0), b(0x5e, 0x63, 1, 0));
        dueSame("of itself, or of one before that is", 0, b(0x5e, 0x63, 0, 0), b(0x5e, 0x63, 0, 0));
        dueSame("of themselves, one not null", 0, b(0x5e, 0x63, 0, 0), b(0x5e, 0x64, 1, 0));
        dueSame("of themselves, and more", 1, b(0x5f, 2, 0x64, 0, 1, I32, 0), b(0x5f, 2, 0x64, 1, 1, I32, 0));
        dueSame("of the same one before", 1, b(0x5f, 0), b(0x5e, 0x63, 0, 0), b(0x5e, 0x63, 0, 0));
        dueSame("of two before that are the same", 1, b(0x5f, 0), b(0x5f, 0), b(0x5e, 0x63, 0, 0), b(0x5e, 0x63, 1, 0));
        dueSame("of two before that are not", 0, b(0x5f, 0), b(0x5e, I32, 0), b(0x5e, 0x63, 0, 0), b(0x5e, 0x63, 1, 0));
        dueSame("of one before, or itself", 0, b(0x5f, 0), b(0x5e, 0x63, 0, 0), b(0x5e, 0x63, 2, 0));
        dueSame("of those of themselves", 1, b(0x5e, 0x63, 0, 0), b(0x5e, 0x63, 1, 0), b(0x5f, 1, 0x63, 0, 0), b(0x5f, 1, 0x63, 1, 0));
        dueSame("of one of itself, and of one of that", 0, b(0x5e, 0x63, 0, 0), b(0x5e, 0x63, 0, 0), b(0x5f, 1, 0x63, 0, 0), b(0x5f, 1, 0x63, 1, 0));
        dueSame("a number or anything", 0, b(0x5f, 0), b(0x5e, 0x63, 0, 0), b(0x5e, 0x6d, 0));
        dueSame("anything or small", 0, b(0x5e, 0x6d, 0), b(0x5e, 0x6c, 0));
        dueSame("anything, written otherwise", 1, b(0x5e, 0x6d, 0), b(0x5e, 0x63, 0x6d, 0));
        dueSame("small, written otherwise", 1, b(0x5e, 0x63, 0x6c, 0), b(0x5e, 0x6c, 0));
        dueSame("anything, not null", 0, b(0x5e, 0x64, 0x6d, 0), b(0x5e, 0x6d, 0));
        dueSame("a number written in more bytes", 1, b(0x5f, 0), b(0x5e, 0x63, 0, 0), b(0x5e, 0x63, 0x80, 0x80, 0x00, 0));
        dueSame("a number or an i32", 0, b(0x5f, 0), b(0x5e, 0x63, 0, 0), b(0x5e, I32, 0));
        dueSame("an i32 or small", 0, b(0x5e, I32, 0), b(0x5e, 0x6c, 0));
        int[][] chain = new int[60][];
        for (int k = 0; k < 60; k++) {
            chain[k] = k < 2 ? b(0x5f, 0) : b(0x5e, 0x63, k - 2, 1);
        }
        dueSame("through a chain of 29 before", 1, chain);
        chain[0] = b(0x5f, 1, I32, 0);
        dueSame("that begins otherwise", 0, chain);
    }

    /* Functions' types, too: 0x11 asks whether they are the same. */
    private static void sameFunctionTypes() {
        dueFunction("nothing", 0, b(0x60, 0, 0), b(0x60, 0, 0));
        dueFunction("a parameter", 7, b(0x60, 1, I32, 0), b(0x60, 0, 0));
        dueFunction("a result", 7, b(0x60, 0, 1, I32), b(0x60, 0, 0));
        dueFunction("another result", 7, b(0x60, 0, 1, I32), b(0x60, 0, 1, I64));
        dueFunction("another second result", 7, b(0x60, 0, 2, I32, I32), b(0x60, 0, 2, I32, I64));
        dueFunction("one result more", 7, b(0x60, 0, 1, I32), b(0x60, 0, 2, I32, I32));
        dueFunction("the same results", 0, b(0x60, 0, 2, I32, I64), b(0x60, 0, 2, I32, I64));
        dueFunction("parameters for results", 7, b(0x60, 1, I32, 0), b(0x60, 0, 1, I32));
        dueFunction("another parameter", 7, b(0x60, 1, I64, 0), b(0x60, 1, I32, 0));
        dueFunction("a smaller parameter", 7, b(0x60, 1, 0x6c, 0), b(0x60, 1, 0x6d, 0));
        dueFunction("a smaller result", 7, b(0x60, 0, 1, 0x6c), b(0x60, 0, 1, 0x6d));
        dueFunction("of structures that are the same", 0, b(0x60, 1, 0x63, 0, 1, 0x64, 1), b(0x60, 1, 0x63, 1, 1, 0x64, 0));
        dueFunction("of structures that are not", 7, b(0x60, 1, 0x63, 0, 0), b(0x60, 1, 0x63, 2, 0));
        dueFunction("null or not", 7, b(0x60, 1, 0x63, 0, 0), b(0x60, 1, 0x64, 0, 0));
    }

    /* A function of the first type lies in the table, and is called as one of the second; a trap 1 is its own. */
    private static void dueFunction(String what, int trap, int[] first, int[] second) {
        Support.Mod mod = new Support.Mod().table(0, 1);
        mod.type(0x5f, 0);
        mod.type(0x5f, 0);
        mod.type(0x5f, 1, I32, 0);
        int own = mod.type(first);
        int asked = mod.type(second);
        mod.fn(own, 0x00);
        mod.fn(mod.type(0x60, 0, 0), makeParameters(second), 0x41, 0, 0x11, asked, 0, 0x00);
        mod.element(0, 0);
        due(what, mod.house().call('b', 9), trap == 0 ? 1 : trap);
    }

    private static int[] makeParameters(int[] type) {
        if (type[1] == 0) {
            return NOTHING;
        }
        return switch (type[2]) {
            case I32 -> b(0x41, 0);
            case I64 -> b(0x42, 0);
            case 0x63 -> b(0xd0, type[3]);
            case 0x64 -> b(0xfb, 1, type[3]);
            default -> b(0xd0, type[2]);
        };
    }

    private static void sameTypesInLongRows() {
        for (int place = 0; place < 16; place++) {
            int[] same = b(Support.many(place, I32, 0), 0x6d, 1, Support.many(15 - place, I32, 0));
            int[] other = b(Support.many(place, I32, 0), 0x6c, 1, Support.many(15 - place, I32, 0));
            int[] fixed = b(Support.many(place, I32, 0), 0x6d, 0, Support.many(15 - place, I32, 0));
            dueSame("all 16 the same", 1, b(0x5f, 16, same), b(0x5f, 16, same));
            dueSame("another at " + place, 0, b(0x5f, 16, same), b(0x5f, 16, other));
            dueSame("not to be set at " + place, 0, b(0x5f, 16, same), b(0x5f, 16, fixed));
        }
    }

    /* "a BLOCK TYPE is 0x40: nothing; a value type: one result; or S33 .., a type 0x60". */
    private static void blockTypes() {
        for (int block : new int[] {0x02, 0x03}) {
            good("nothing", NONE, block, 0x40, 0x0b);
            bad("nothing, and a value", NONE, block, 0x40, 0x41, 0, 0x0b);
            good("one result", ONE, block, I32, 0x41, 0, 0x0b);
            bad("two for one result", ONE, block, I32, 0x41, 0, 0x41, 0, 0x0b);
            bad("none for one result", ONE, block, I32, 0x0b);
            good("an i64", LONG, block, I64, 0x42, 0, 0x0b);
            bad("a value below is not its own", ONE, 0x41, 0, block, I32, 0x0b);
            good("parameters are its own", ONE, 0x41, 0, block, 4, 0x0b);
            bad("without its parameters", ONE, block, 4, 0x0b);
            bad("with another parameter", ONE, 0x42, 0, block, 4, 0x0b);
            good("two, the first deepest", List.of(I, b(I64)), 0x41, 0, 0x42, 0, block, 7, 0x0b);
            bad("two, the wrong way", List.of(I, b(I64)), 0x42, 0, 0x41, 0, block, 7, 0x0b);
            good("a smaller parameter", ANY, 0x41, 0, 0xfb, 28, block, 8, 0x0b);
            bad("a parameter that is not smaller", ANY, 0xd0, 0x6d, block, 8, 0x0b);
            for (int number : new int[] {0, 2, 3, 10, 63}) {
                bad("a type that is no function's, or not there " + number, NONE, block, number, 0x0b);
            }
            good("the function's own type", NONE, 0x41, 0, block, 9, 0x1a, 0x0b);
        }
    }

    /* Of 64 types each can be a block's. */
    private static void lastBlockType() {
        for (int number : new int[] {15, 16, 17, 40, 62, 63}) {
            Support.Mod mod = new Support.Mod();
            for (int k = 0; k < 64; k++) {
                mod.type(0x60, 0, k == number ? b(1, I64) : b(0));
            }
            mod.fn(number, 0x02, Support.s(number), 0x42, 5, 0x0b);
            due("block type " + number, mod.loaded(), 0);
            mod.fn(0, 0x02, Support.s(number), 0x0b);
            due("without its result " + number, mod.loaded(), -2);
        }
    }

    /* "(without it its parameters and results must be the same types)". */
    private static void ifsWithoutElse() {
        int[][] types = {NOTHING, b(I32), b(I64), b(0x6d), b(0x6c), b(0x63, 0), b(0x63, 1), b(0x64, 0), b(0x63, 0x6d)};
        int[] group = {0, 1, 2, 3, 4, 5, 5, 6, 3};
        for (int from = 0; from < types.length; from++) {
            for (int to = 0; to < types.length; to++) {
                Support.Mod mod = kinds();
                int one = mod.type(0x60, from == 0 ? 0 : 1, types[from], to == 0 ? 0 : 1, types[to]);
                int own = mod.type(0x60, from == 0 ? 0 : 1, types[from], 0);
                mod.fn(own, from == 0 ? NOTHING : b(0x20, 0), 0x41, 0, 0x04, one, from == to ? NOTHING : b(0x00), 0x0b, to == 0 ? NOTHING : b(0x1a));
                due("if from " + from + " to " + to, mod.loaded(), group[from] == group[to] ? 0 : -2);
            }
        }
        bad("more results", List.of(I, I), 0x41, 0, 0x41, 0, 0x04, 5, 0x00, 0x0b, Support.many(14, 0x1a));
    }

    /* "0x0c U: to the end of the U-th block out (0 the innermost; the function's body is the outermost)". */
    private static void waysOut() {
        for (int depth = 0; depth <= 3; depth++) {
            for (int label = 0; label <= 6; label++) {
                int want = label <= depth ? 0 : -2;
                int[] opened = Support.many(depth, 0x02, 0x40);
                int[] closed = Support.many(depth, 0x0b);
                due("0x0c", answer(NONE, opened, 0x0c, label, closed), want);
                due("0x0d", answer(NONE, opened, 0x41, 0, 0x0d, label, closed), want);
                due("0x0e, the last", answer(NONE, opened, 0x41, 0, 0x0e, 1, 0, label, closed), want);
                due("0x0e, the first", answer(NONE, opened, 0x41, 0, 0x0e, 1, label, 0, closed), want);
                due("0xd5", answer(NONE, opened, 0xd0, 0x6d, 0xd5, label, 0x1a, closed), want);
                due("0xd6", answer(ANY, Support.many(depth, 0x02, 0x6d), 0xd0, 0x6d, 0xd6, label, 0xd0, 0x6d, closed), want);
                due("0x0c, can't be come to", answer(NONE, opened, 0x00, 0x0c, label, closed), want);
                due("behind the blocks", answer(NONE, opened, closed, 0x0c, label), label == 0 ? 0 : -2);
            }
        }
        good("out of 100 blocks", NONE, Support.many(99, 0x02, 0x40), 0x0c, 99, Support.many(99, 0x0b));
        bad("out of one more", NONE, Support.many(99, 0x02, 0x40), 0x0c, 0xe4, 0x00, Support.many(99, 0x0b));
    }

    /* "a loop's end for 0x0c takes its parameters, other ends take results". */
    private static void waysOfALoop() {
        good("a loop takes nothing", ONE, 0x03, I32, 0x0c, 0, 0x0b);
        bad("a block takes its result", ONE, 0x02, I32, 0x0c, 0, 0x0b);
        good("a loop takes its parameter", ONE, 0x41, 0, 0x03, 4, 0x0c, 0, 0x0b);
        bad("a loop without its parameter", ONE, 0x41, 0, 0x03, 4, 0x1a, 0x0c, 0, 0x0b);
        good("a smaller one for a loop", ANY, 0x41, 0, 0xfb, 28, 0x03, 8, 0x1a, 0x41, 0, 0xfb, 28, 0x0c, 0, 0x0b);
        bad("its result does not do", ANY, 0x41, 0, 0xfb, 28, 0x03, 8, 0x1a, 0xd0, 0x6d, 0x0c, 0, 0x0b);
        good("for a block it does", ANY, 0x41, 0, 0xfb, 28, 0x02, 8, 0x1a, 0xd0, 0x6d, 0x0c, 0, 0x0b);
        good("an if takes its results", ONE, 0x41, 0, 0x04, I32, 0x41, 0, 0x0c, 0, 0x05, 0x41, 0, 0x0c, 0, 0x0b);
        bad("an if without them", ONE, 0x41, 0, 0x04, I32, 0x0c, 0, 0x05, 0x41, 0, 0x0b);
        bad("an else without them", ONE, 0x41, 0, 0x04, I32, 0x41, 0, 0x05, 0x0c, 0, 0x0b);
    }

    /* A loop from an i32 to an i64: ways to it take and leave the i32, its end leaves the i64. */
    private static void loopsToAnotherType() {
        Object[][] goods = {{0xac}, {0x41, 0, 0x0d, 0, 0xac}, {0xd0, 0x6d, 0xd5, 0, 0x1a, 0xac}, {0x0c, 0}, {0x41, 0, 0x0e, 1, 0, 0}, {0xac, 0x0c, 1}};
        Object[][] bads = {{}, {0x41, 0, 0x0d, 0}, {0xd0, 0x6d, 0xd5, 0, 0x1a}, {0xac, 0x0c, 0}, {0xac, 0x41, 0, 0x0e, 1, 0, 0}, {0xac, 0x41, 0, 0x0d, 0}, {0xac, 0xd0, 0x6d, 0xd5, 0, 0x1a}, {0x0c, 1}, {0x41, 0, 0x0e, 1, 0, 1}, {0xac, 0x41, 0, 0x0e, 1, 1, 0}};
        for (Object[] code : goods) {
            due("good in the loop", loopTo(code), 0);
        }
        for (Object[] code : bads) {
            due("bad in the loop", loopTo(code), -2);
        }
    }

    private static int loopTo(Object... code) {
        Support.Mod mod = kinds();
        int type = mod.type(0x60, 1, I32, 1, I64);
        mod.fn(type, 0x20, 0, 0x03, type, b(code), 0x0b, 0x42, 1, 0x7c);
        return mod.loaded();
    }

    /* "for 0x0e all the ends must take as many, and what is there must fit each". */
    private static void waysOfARow() {
        good("one and none", ONE, 0x02, I32, 0x41, 0, 0x41, 0, 0x0e, 2, 0, 1, 1, 0x0b);
        bad("a block of none among them", ONE, 0x02, 0x40, 0x41, 0, 0x41, 0, 0x0e, 2, 1, 0, 1, 0x0b, 0x41, 0);
        bad("the last of none", ONE, 0x02, 0x40, 0x41, 0, 0x41, 0, 0x0e, 1, 1, 0, 0x0b, 0x41, 0);
        bad("as many, but they don't fit", ONE, 0x02, I64, 0x41, 0, 0x41, 0, 0x0e, 1, 0, 1, 0x0b, 0x1a, 0x41, 0);
        bad("as many, but the last does not fit", ONE, 0x02, I64, 0x42, 0, 0x41, 0, 0x0e, 1, 0, 1, 0x0b, 0x1a, 0x41, 0);
        good("what is there fits both", ANY, 0x02, 0x6c, 0x41, 0, 0xfb, 28, 0x41, 0, 0x0e, 1, 0, 1, 0x0b);
        bad("what is there fits but one", ANY, 0x02, 0x6c, 0xd0, 0x6d, 0x41, 0, 0x0e, 1, 0, 1, 0x0b);
        good("unknown fits both", ONE, 0x02, I64, 0x00, 0x0e, 1, 0, 1, 0x0b, 0x1a, 0x41, 0);
        good("one known, one not", List.of(I, I), 0x00, 0x41, 0, 0x41, 0, 0x0e, 0, 0);
        bad("unknown, but not as many", ONE, 0x02, 0x40, 0x00, 0x0e, 1, 0, 1, 0x0b, 0x41, 0);
        bad("known above what is unknown", ONE, 0x02, I64, 0x00, 0x41, 0, 0x41, 0, 0x0e, 1, 0, 1, 0x0b, 0x1a, 0x41, 0);
        good("a loop's none, and a block's none", NONE, 0x03, I32, 0x02, 0x40, 0x41, 0, 0x0e, 2, 0, 1, 2, 0x0b, 0x41, 0, 0x0b, 0x1a);
        bad("below the block", ONE, 0x41, 0, 0x02, 0x40, 0x41, 0, 0x0e, 0, 1, 0x0b);
        good("two values in their order", List.of(I, b(I64)), 0x41, 0, 0x42, 0, 0x41, 0, 0x0e, 1, 0, 0);
        bad("two values the other way", List.of(I, b(I64)), 0x42, 0, 0x41, 0, 0x41, 0, 0x0e, 1, 0, 0);
        bad("the deeper one of two is not there", List.of(I, b(I64)), 0x42, 0, 0x41, 0, 0x0e, 1, 0, 0);
        good("the deeper one of two is unknown", List.of(I, b(I64)), 0x00, 0x42, 0, 0x41, 0, 0x0e, 1, 0, 0);
        bad("the higher one of two does not fit", List.of(I, b(I64)), 0x00, 0x41, 0, 0x41, 0, 0x0e, 1, 0, 0);
        bad("no number that tells which", NONE, 0x0e, 0, 0);
        bad("an i64 that tells which", NONE, 0x42, 0, 0x0e, 0, 0);
        bad("a reference that tells which", NONE, 0xd0, 0x6d, 0x0e, 0, 0);
    }

    private static int[] values(int count) {
        return Support.many(count, 0x41, 0);
    }

    private static int[] drops(int count) {
        return Support.many(count, 0x1a);
    }

    /* "A function's stack has at most 100 values at any time". */
    private static void hundredValues() {
        good("99", NONE, values(99), drops(99));
        good("100", NONE, values(100), drops(100));
        bad("101", NONE, values(101), drops(101));
        bad("101, and 0x0f", NONE, values(101), 0x0f);
        good("100 twice", NONE, values(100), drops(100), values(100), drops(100));
        good("references count as one", NONE, Support.many(100, 0xd0, 0x6d), drops(100));
        bad("101 references", NONE, Support.many(101, 0xd0, 0x6d), drops(101));
        bad("101 i64", NONE, Support.many(101, 0x42, 0), drops(101));
        Support.Mod mod = new Support.Mod();
        mod.fnWith(mod.type(0x60, 0, 0), b(1, Support.u(200), I32), values(100), drops(100));
        due("locals are not among them", mod.loaded(), 0);
        Support.Mod calls = new Support.Mod();
        calls.fn(calls.type(0x60, 0, 0), values(100), 0x10, 1, drops(100));
        calls.fn(0, values(100), drops(100));
        due("nor are another call's", calls.house().call('a', 5), 0);
    }

    /* Each instruction that brings one value: there is room for it at 99, and none at 100. */
    private static void hundredValuesByEveryInstruction() {
        int[][] brings = {b(0x41, 0), b(0x42, 0), b(0x20, 0), b(0x23, 0), b(0x3f, 0), b(0xd0, 0x6d), b(0xd0, 0), b(0xfb, 1, 0), b(0xfb, 8, 2, 0), b(0x02, I32, 0x00, 0x0b), b(0x03, 0x6d, 0x00, 0x0b)};
        for (int[] one : brings) {
            good("the 100th", NONE, values(99), one, drops(100));
            bad("the 101st", NONE, values(100), one, drops(101));
        }
        int[][] turns = {b(0x45), b(0xac), b(0x22, 0), b(0x28, 0, 0), b(0x40, 0), b(0xfb, 28), b(0x67), b(0x02, 4, 0x0b), b(0x03, 4, 0x0b), b(0x1a, 0x42, 0)};
        for (int[] one : turns) {
            good("takes one, brings one", NONE, values(100), one, drops(100));
        }
        good("takes two, brings one", NONE, values(100), 0x6a, drops(99));
        good("takes three, brings one", NONE, values(100), 0x1b, drops(98));
        good("a store", NONE, values(100), 0x36, 0, 0, drops(98));
        good("a call of 16 results", NONE, values(84), 0x02, 5, 0x00, 0x0b, drops(100));
        bad("and of one too many", NONE, values(85), 0x02, 5, 0x00, 0x0b, drops(101));
        Support.Mod mod = new Support.Mod();
        mod.fn(mod.type(0x60, 0, 16, Support.many(16, I32)), 0x00);
        mod.fn(mod.type(0x60, 0, 0), values(84), 0x10, 0, drops(100));
        due("a function of 16 results", mod.loaded(), 0);
        mod.fn(1, values(85), 0x10, 0, drops(101));
        due("one too many", mod.loaded(), -2);
        Support.Mod same = new Support.Mod();
        same.fn(same.type(0x60, 16, Support.many(16, I32), 16, Support.many(16, I32)), 0x00);
        same.fn(same.type(0x60, 0, 0), values(100), 0x10, 0, drops(100));
        due("16 go, and 16 come", same.loaded(), 0);
        good("16 go into a block, and come", NONE, values(100), 0x02, 6, 0x0b, drops(100));
        good("64 told elements", NONE, Support.many(100, 0xd0, 0), 0xfb, 8, 2, 64, drops(37));
    }

    private static void hundredValuesInBlocks() {
        for (int block : new int[] {0x02, 0x03}) {
            good("60 and 40", NONE, values(60), block, 0x40, values(40), drops(40), 0x0b, drops(60));
            bad("60 and 41", NONE, values(60), block, 0x40, values(41), drops(41), 0x0b, drops(60));
            good("90 and 10 within 5", NONE, values(90), Support.many(5, block, 0x40, 0x41, 0), values(5), drops(5), Support.many(5, 0x1a, 0x0b), drops(90));
            bad("90 and 11 within 5", NONE, values(90), Support.many(5, block, 0x40, 0x41, 0), values(6), drops(6), Support.many(5, 0x1a, 0x0b), drops(90));
        }
        good("in an if", NONE, values(60), 0x41, 0, 0x04, 0x40, values(40), drops(40), 0x05, values(40), drops(40), 0x0b, drops(60));
        bad("in its else", NONE, values(60), 0x41, 0, 0x04, 0x40, values(40), drops(40), 0x05, values(41), drops(41), 0x0b, drops(60));
        bad("the number that an if takes", NONE, values(100), 0x41, 0, 0x04, 0x40, 0x0b, drops(100));
        good("values of a block are gone behind it", NONE, 0x02, 0x40, values(100), 0x0c, 0, 0x0b, values(100), drops(100));
    }

    /* "(also where it can't be come to)". */
    private static void hundredValuesThatCantBeComeTo() {
        for (int[] way : new int[][] {b(0x00), b(0x0c, 0), b(0x41, 0, 0x0e, 0, 0), b(0x0f)}) {
            good("100 and their drops", NONE, way, values(100), drops(100));
            bad("101 and their drops", NONE, way, values(101), drops(101));
            good("what is asked for is no value", NONE, way, drops(150));
            good("values of before are gone", NONE, values(100), drops(1), way, values(100), drops(100));
            bad("in a block there", NONE, way, values(60), 0x02, 0x40, values(41), drops(41), 0x0b, drops(60));
            bad("in a block that can't be come to", NONE, values(60), 0x02, 0x40, way, values(41), drops(41), 0x0b, drops(60));
            good("in a block, 100 in all", NONE, values(60), 0x02, 0x40, way, values(40), drops(40), 0x0b, drops(60));
            bad("a block of 16 there", NONE, way, values(85), 0x02, 5, 0x00, 0x0b, drops(101));
            good("a block that asks for 16 there", NONE, way, 0x02, 6, 0x0b, drops(16));
        }
    }

    /* "at most 100 blocks are open, its body among them". */
    private static void hundredBlocks() {
        for (int[] opened : new int[][] {b(0x02, 0x40), b(0x03, 0x40), b(0x41, 0, 0x04, 0x40)}) {
            good("100 with the body", NONE, Support.many(99, opened), Support.many(99, 0x0b));
            bad("101 with the body", NONE, Support.many(100, opened), Support.many(100, 0x0b));
            good("100 and a further one behind", NONE, Support.many(99, opened), 0x0b, opened, Support.many(99, 0x0b));
            bad("100 and one within", NONE, Support.many(99, opened), 0x0b, opened, opened, Support.many(100, 0x0b));
            good("200 one behind the other", NONE, Support.many(200, opened, 0x0b));
        }
        good("each with an else", NONE, Support.many(99, 0x41, 0, 0x04, 0x40, 0x05), Support.many(99, 0x0b));
        bad("one too many in an else", NONE, Support.many(100, 0x41, 0, 0x04, 0x40, 0x05), Support.many(100, 0x0b));
        Support.Mod mod = Support.one(NOTHING, NOTHING, Support.many(99, 0x02, 0x40), Support.many(99, 0x0b));
        mod.fn(0, Support.many(99, 0x02, 0x40), Support.many(99, 0x0b));
        due("each function has 100", mod.loaded(), 0);
    }

    private static void hundredBlocksThatCantBeComeTo() {
        for (int[] opened : new int[][] {b(0x02, 0x40), b(0x03, 0x40), b(0x04, 0x40)}) {
            good("100 with the body", NONE, 0x00, Support.many(99, 0x00, opened), Support.many(99, 0x0b));
            bad("101 with the body", NONE, 0x00, Support.many(100, 0x00, opened), Support.many(100, 0x0b));
        }
        bad("far too many", NONE, Support.many(1000, 0x02, 0x40), Support.many(1000, 0x0b));
    }

    /* "Behind 0x00, 0x0c, 0x0e, 0x0f the rest of the block can't be come to: its part of the stack gives values of any type, as many as are asked for". */
    private static void whatCantBeComeTo() {
        for (int[] way : new int[][] {b(0x00), b(0x41, 0, 0x0c, 0), b(0x41, 0, 0x41, 0, 0x0e, 0, 0), b(0x41, 0, 0x0f)}) {
            good("no result is needed", ONE, way);
            good("an i32 asked for", ONE, way, 0x45);
            good("an i64 asked for", ONE, way, 0x50);
            good("a reference asked for", ONE, way, 0xd1);
            good("two references", ONE, way, 0xd3);
            good("an array", ONE, way, 0xfb, 15);
            good("a structure", ONE, way, 0xfb, 2, 0, 0);
            good("many of many types", ONE, way, 0x36, 0, 0, 0x37, 0, 0, 0x21, 0, 0x1a, 0x1a, 0xfb, 0, 0, 0x1a, 0x10, 0);
            good("a known one and an unknown", ONE, way, 0x41, 0, 0x6a);
            bad("a known one of another type", ONE, way, 0x42, 0, 0x6a);
            bad("one too many at the end", ONE, way, 0x41, 0, 0x41, 0);
            bad("another type at the end", ONE, way, 0x42, 0);
            good("just the one", ONE, way, 0x41, 0);
            bad("a local that is not there", ONE, way, 0x20, 1);
            bad("a global that is not there", ONE, way, 0x23, 1);
            bad("a block that is not there", ONE, way, 0x0c, 1);
            bad("a function that is not there", ONE, way, 0x10, 1);
            bad("a type that is not there", ONE, way, 0xfb, 0, 63);
            bad("an alignment too great", ONE, way, 0x28, 3, 0);
            bad("0x0c still takes what is there", ONE, way, 0x42, 0, 0x0c, 0);
            good("0x0c again", ONE, way, 0x0c, 0, 0x0c, 0);
        }
        bad("behind 0x0d it can be come to", ONE, 0x41, 0, 0x0d, 0);
        bad("behind 0xd5", ANY, 0x02, 0x40, 0xd0, 0x6d, 0xd5, 0, 0x0b);
        bad("behind 0xd6", ANY, 0xd0, 0x6d, 0xd6, 0);
        bad("behind a call", ONE, 0x41, 0, 0x10, 0, 0x1a);
    }

    /* Only "the rest of the block". */
    private static void whatCanBeComeToAgain() {
        for (int block : new int[] {0x02, 0x03}) {
            bad("behind the block", ONE, block, 0x40, 0x00, 0x0b);
            good("the block's result is there", ONE, block, I32, 0x00, 0x0b);
            bad("of its type alone", ONE, block, I64, 0x00, 0x0b);
            bad("and no more", ONE, block, I32, 0x00, 0x0b, 0x6a);
            bad("a value around it can't be reached", ONE, 0x41, 0, block, 0x40, 0x00, 0x0b, 0x41, 0);
            good("it is still there behind it", ONE, 0x41, 0, block, 0x40, 0x00, 0x0b);
            bad("a block within can be come to", ONE, 0x00, block, 0x40, 0x1a, 0x0b);
            bad("and needs its values", ONE, 0x00, block, I32, 0x0b);
            good("behind it the rest can't", ONE, 0x00, block, 0x40, 0x0b, 0x6a);
        }
        for (int first : new int[] {0x02, 0x03}) {
            bad("a block behind one that can't be come to the end of", NONE, first, 0x40, 0x00, 0x0b, 0x02, 0x40, 0x1a, 0x0b);
            bad("a loop behind such a one", NONE, first, 0x40, 0x00, 0x0b, 0x03, 0x40, 0x1a, 0x0b);
        }
        Support.Mod mod = Support.one(NOTHING, NOTHING, 0x00);
        mod.fn(0, 0x1a);
        due("the next function", mod.loaded(), -2);
        bad("the else can be come to", ONE, 0x41, 0, 0x04, I32, 0x00, 0x05, 0x0b);
        good("and has its own values", ONE, 0x41, 0, 0x04, I32, 0x00, 0x05, 0x41, 0, 0x0b);
        bad("behind an if", ONE, 0x41, 0, 0x04, 0x40, 0x00, 0x0b);
        bad("behind an if and an else", ONE, 0x41, 0, 0x04, 0x40, 0x00, 0x05, 0x00, 0x0b);
        bad("the else of what can't be come to", ONE, 0x00, 0x04, I32, 0x00, 0x05, 0x0b);
    }

    private static void unknownValues() {
        for (int op : new int[] {0x6a, 0x46}) {
            good("both unknown", ONE, 0x00, op);
            good("the first unknown", ONE, 0x00, 0x41, 0, op);
            bad("the first unknown, the second wrong", ONE, 0x00, 0x42, 0, op);
        }
        good("an unknown result of each type", List.of(I, b(I64), b(0x6d), b(0x64, 0), b(0x6c)), 0x00);
        good("with a known one above", List.of(b(I64), b(0x64, 0), I), 0x00, 0x41, 0);
        good("0x0d gives them types", ONE, 0x00, 0x41, 0, 0x0d, 0);
        bad("and keeps them to it", LONG, 0x00, 0x02, I32, 0x41, 0, 0x41, 0, 0x0d, 0, 0x0b);
        bad("an unknown one kept to i32", ONE, 0x02, I32, 0x00, 0x41, 0, 0x0d, 0, 0xac, 0x0b);
        good("0x22 gives its local's type", ONE, 0x00, 0x22, 0);
        bad("and keeps it to it", LONG, 0x00, 0x22, 0);
    }

    /* "(a reference of unknown type is smaller than any)". */
    private static void unknownReferences() {
        int[][] types = {b(0x6d), b(0x64, 0x6d), b(0x6c), b(0x64, 0x6c), b(0x63, 0), b(0x64, 0), b(0x63, 2), b(0x64, 2)};
        for (int[] type : types) {
            good("by 0xd4", List.of(type), 0x00, 0xd4);
            good("by 0xd5", List.of(type), 0x02, 0x40, 0x00, 0xd5, 0, 0x0f, 0x0b, 0x00);
            good("by 0xd6", List.of(type), 0x00, 0xd6, 0, 0x00);
        }
        bad("no i32 by 0xd4", ONE, 0x00, 0xd4);
        bad("no i64 by 0xd4", LONG, 0x00, 0xd4);
        bad("no i32 by 0xd5", ONE, 0x02, 0x40, 0x00, 0xd5, 0, 0x0f, 0x0b, 0x00);
        bad("no i32 by 0xd6", ONE, 0x00, 0xd6, 0, 0x00);
        good("an array's length by 0xd4", ONE, 0x00, 0xd4, 0xfb, 15);
        good("not null once more", List.of(b(0x64, 3)), 0x00, 0xd4, 0xd4);
        for (int op : new int[] {0xd1, 0xd4}) {
            bad("an i32 is no reference", ONE, 0x41, 0, op, 0x1a, 0x41, 0);
            bad("an i64 is no reference", ONE, 0x42, 0, op, 0x1a, 0x41, 0);
            bad("an i32 that can't be come to", ONE, 0x00, 0x41, 0, op, 0x1a, 0x41, 0);
        }
        for (int op : new int[] {0xd5, 0xd6}) {
            bad("an i32 for a branch", NONE, 0x41, 0, op, 0, 0x1a);
            bad("an i64 for a branch that can't be come to", ANY, 0x00, 0x42, 0, op, 0, 0x00);
        }
    }

    /* "0x1b needs numbers (one of any type is as the other one)". */
    private static void choices() {
        good("both i32", ONE, values(3), 0x1b);
        good("both i64", LONG, 0x42, 0, 0x42, 0, 0x41, 0, 0x1b);
        bad("i32 and i64", ONE, 0x41, 0, 0x42, 0, 0x41, 0, 0x1b, 0x1a, 0x41, 0);
        bad("i64 and i32", ONE, 0x42, 0, 0x41, 0, 0x41, 0, 0x1b, 0x1a, 0x41, 0);
        bad("told by an i64", ONE, 0x41, 0, 0x41, 0, 0x42, 0, 0x1b);
        bad("told by a reference", ONE, 0x41, 0, 0x41, 0, 0xd0, 0x6d, 0x1b);
        int[][] references = {b(0xd0, 0x6d), b(0xd0, 0x6c), b(0xd0, 0), b(0xfb, 1, 0), b(0x41, 0, 0xfb, 28)};
        for (int[] reference : references) {
            bad("both references", NONE, reference, reference, 0x41, 0, 0x1b, 0x1a);
            bad("an i32 and a reference", NONE, 0x41, 0, reference, 0x41, 0, 0x1b, 0x1a);
            bad("a reference and an i32", NONE, reference, 0x41, 0, 0x41, 0, 0x1b, 0x1a);
            bad("one of any type and a reference", NONE, 0x00, reference, 0x41, 0, 0x1b, 0x1a);
        }
        bad("a reference of unknown type", NONE, 0x00, 0xd4, 0x41, 0, 0x1b, 0x1a);
        good("one of any type and an i32", ONE, 0x00, 0x41, 0, 0x41, 0, 0x1b);
        bad("it is an i32 then", LONG, 0x00, 0x41, 0, 0x41, 0, 0x1b);
        good("one of any type and an i64", LONG, 0x00, 0x42, 0, 0x41, 0, 0x1b);
        bad("it is an i64 then", ONE, 0x00, 0x42, 0, 0x41, 0, 0x1b);
        good("both of any type, as i32", ONE, 0x00, 0x1b);
        good("both of any type, as i64", LONG, 0x00, 0x1b);
    }

    /* "Numbers of locals, globals, types, functions, fields, blocks, must be there". */
    private static void numbersThatMustBeThere() {
        for (int count : new int[] {1, 2, 64}) {
            Support.Mod mod = new Support.Mod();
            for (int k = 0; k < count; k++) {
                mod.global(I, 1, 0x41, 0);
            }
            mod.type(0x60, 0, 0);
            for (int k = 0; k < count - 1; k++) {
                mod.functions.add(b(0));
                mod.bodies.add(b(2, 0, 0x0b));
            }
            int[][] numbers = {Support.u(count - 1), Support.u(count), Support.u(count + 1), Support.u(0xffffffffL)};
            for (int k = 0; k < numbers.length; k++) {
                dueLast("a global comes", mod, k, 0x23, numbers[k], 0x1a);
                dueLast("a global is set", mod, k, 0x41, 0, 0x24, numbers[k]);
                dueLast("a function", mod, k, 0x10, numbers[k]);
            }
        }
        for (int count : new int[] {1, 2, 16, 200}) {
            int[][] numbers = {Support.u(count - 1), Support.u(count), Support.u(count + 1), Support.u(0xffffffffL)};
            for (int k = 0; k < numbers.length; k++) {
                for (Object[] code : new Object[][] {{0x20, numbers[k], 0x1a}, {0x41, 0, 0x21, numbers[k]}, {0x41, 0, 0x22, numbers[k], 0x1a}}) {
                    Support.Mod mod = new Support.Mod();
                    mod.fnWith(mod.type(0x60, 1, I32, 0), b(1, Support.u(count - 1), I32), code);
                    due("local " + k + " of " + count, mod.loaded(), k == 0 ? 0 : -2);
                }
            }
        }
        for (int count : new int[] {1, 2, 16}) {
            int[][] numbers = {Support.u(count - 1), Support.u(count), Support.u(count + 1), Support.u(0xffffffffL)};
            for (int k = 0; k < numbers.length; k++) {
                for (Object[] code : new Object[][] {{0xd0, 0, 0xfb, 2, 0, numbers[k], 0x1a}, {0xd0, 0, 0x41, 0, 0xfb, 5, 0, numbers[k]}}) {
                    Support.Mod mod = new Support.Mod();
                    mod.type(0x5f, count, Support.many(count, I32, 1));
                    mod.fn(mod.type(0x60, 0, 0), code);
                    due("field " + k + " of " + count, mod.loaded(), k == 0 ? 0 : -2);
                }
            }
        }
        Support.Mod packed = new Support.Mod();
        packed.type(0x5f, 1, 0x78, 1);
        packed.fn(packed.type(0x60, 0, 0), 0xd0, 0, 0xfb, 3, 0, 1, 0x1a);
        due("a field of 8 bits that is not there", packed.loaded(), -2);
    }

    /* One more function, with the code; it is taken away again. */
    private static void dueLast(String what, Support.Mod mod, int k, Object... code) {
        int[] body = b(0, b(code), 0x0b);
        mod.functions.add(b(0));
        mod.bodies.add(b(Support.u(body.length), body));
        due(what + " " + k, mod.loaded(), k == 0 ? 0 : -2);
        mod.functions.remove(mod.functions.size() - 1);
        mod.bodies.remove(mod.bodies.size() - 1);
    }

    /* The type of each instruction that names one: of the kind that it needs, and there. */
    private static void typesThatMustBeThere() {
        List<int[]> ofStructure = new ArrayList<>();
        List<int[]> ofArray = new ArrayList<>();
        for (int op : new int[] {0, 1}) {
            ofStructure.add(b(0xfb, op));
        }
        for (int op : new int[] {6, 7, 11, 14, 16}) {
            ofArray.add(b(0xfb, op));
        }
        for (int number : new int[] {0, 1, 2, 3, 4, 63, 64, 127}) {
            boolean structure = number == 0 || number == 3;
            boolean array = number == 1;
            int[] u = Support.u(number);
            for (int[] op : ofStructure) {
                dueTyped("0xfb " + op[1] + " of " + number, structure, 0x00, op, u);
            }
            for (int[] op : ofArray) {
                dueTyped("0xfb " + op[1] + " of " + number, array, 0x00, op, u);
            }
            dueTyped("0xfb 2 of " + number, structure, 0x00, 0xfb, 2, u, 0);
            dueTyped("0xfb 5 of " + number, structure, 0x00, 0xfb, 5, u, 0);
            dueTyped("0xfb 8 of " + number, array, 0x00, 0xfb, 8, u, 1);
            dueTyped("null of " + number, structure || array, 0xd0, Support.s(number), 0x00);
            for (int op = 20; op <= 23; op++) {
                dueTyped("cast to " + number, structure || array, 0x00, 0xfb, op, Support.s(number));
            }
            dueTyped("a call by table of " + number, number == 2, 0x00, 0x11, u, 0);
            dueTyped("a block of " + number, number == 2, 0x00, 0x02, Support.s(number), 0x0b);
            dueTyped("a block's value of " + number, structure || array, 0x02, 0x63, Support.s(number), 0x00, 0x0b, 0x00);
        }
    }

    private static void dueTyped(String what, boolean good, Object... code) {
        Support.Mod mod = new Support.Mod().table(0, 1);
        mod.type(0x5f, 1, I32, 1);
        mod.type(0x5e, I32, 1);
        mod.type(0x60, 0, 0);
        mod.type(0x5f, 1, I32, 1);
        mod.fn(2, b(code), 0x00);
        due(what, mod.loaded(), good ? 0 : -2);
    }

    /* "what is set must be able to be". */
    private static void whatCanBeSet() {
        for (int flag = 0; flag <= 1; flag++) {
            int want = flag == 1 ? 0 : -2;
            for (int[] way : new int[][] {NOTHING, b(0x00)}) {
                dueSet("a global", flag, want, way, 0x41, 0, 0x24, 0);
                dueSet("a field", flag, want, way, 0xd0, 0, 0x41, 0, 0xfb, 5, 0, 1);
                dueSet("an element", flag, want, way, 0xd0, 1, 0x41, 0, 0x41, 0, 0xfb, 14, 1);
                dueSet("elements", flag, want, way, 0xd0, 1, 0x41, 0, 0x41, 0, 0x41, 0, 0xfb, 16, 1);
                dueSet("the other global", flag, want == 0 ? -2 : 0, way, 0x41, 0, 0x24, 1);
                dueSet("the other field", flag, want == 0 ? -2 : 0, way, 0xd0, 0, 0x41, 0, 0xfb, 5, 0, 0);
                dueSet("a global comes", flag, 0, way, 0x23, 0, 0x1a);
                dueSet("a field comes", flag, 0, way, 0xd0, 0, 0xfb, 2, 0, 1, 0x1a);
                dueSet("an element comes", flag, 0, way, 0xd0, 1, 0x41, 0, 0xfb, 11, 1, 0x1a);
            }
        }
    }

    private static void dueSet(String what, int flag, int want, Object... code) {
        Support.Mod mod = new Support.Mod();
        mod.type(0x5f, 2, I32, 1 - flag, I32, flag);
        mod.type(0x5e, I32, flag);
        mod.global(I, flag, 0x41, 0);
        mod.global(I, 1 - flag, 0x41, 0);
        mod.fn(mod.type(0x60, 0, 0), code);
        due(what + " with flag " + flag, mod.loaded(), want);
    }

    /* "0x28 to 0x40 need a memory, 0x11 a table". */
    private static void memoryAndTable() {
        for (int op = 0x28; op <= 0x40; op++) {
            if (op == 0x2a || op == 0x2b || op == 0x38 || op == 0x39) {
                continue;
            }
            int[] code = op >= 0x3f ? b(0x00, op, 0, 0x00) : b(0x00, op, 0, 0, 0x00);
            due("without a memory " + op, Support.oneWith(new Support.Mod().table(0, 1), NOTHING, NOTHING, code).loaded(), -2);
            due("with one " + op, Support.oneWith(new Support.Mod().memory(0, 0), NOTHING, NOTHING, code).loaded(), 0);
        }
        due("without a table", Support.oneWith(new Support.Mod().memory(0, 1), NOTHING, NOTHING, 0x00, 0x11, 0, 0).loaded(), -2);
        due("with one", Support.oneWith(new Support.Mod().table(0, 0), NOTHING, NOTHING, 0x00, 0x11, 0, 0).loaded(), 0);
        due("an element without a table", Support.oneWith(new Support.Mod().memory(0, 1).element(0), NOTHING, NOTHING).loaded(), -2);
        due("data without a memory", Support.oneWith(new Support.Mod().table(0, 1).data(0), NOTHING, NOTHING).loaded(), -2);
    }

    /* "the first at most so much that 2 to it is the width". */
    private static void alignment() {
        int[] width = {4, 8, 0, 0, 1, 1, 2, 2, 1, 1, 2, 2, 4, 4, 4, 8, 0, 0, 1, 2, 1, 2, 4};
        for (int op = 0x28; op <= 0x3e; op++) {
            for (long align : new long[] {0, 1, 2, 3, 4, 31, 32, 33, 64, 0xffffffffL}) {
                if (width[op - 0x28] > 0) {
                    boolean good = align <= 3 && 1 << align <= width[op - 0x28];
                    due("align " + align + " of " + op, answer(NONE, 0x00, op, Support.u(align), 0, 0x00), good ? 0 : -2);
                }
            }
        }
    }

    /* "(3 signed, 4 unsigned if it has 8 or 16 bits, else 2)", "(as 2, 3, 4)". */
    private static void fieldsOfBits() {
        int[][] fields = {b(0x78), b(0x77), b(I32), b(I64), b(0x6d)};
        for (int k = 0; k < fields.length; k++) {
            for (int op = 2; op <= 4; op++) {
                boolean good = k < 2 == op > 2;
                Support.Mod mod = new Support.Mod();
                mod.type(0x5f, 2, I32, 0, fields[k], 0);
                mod.fn(mod.type(0x60, 0, 0), 0xd0, 0, 0xfb, op, 0, 1, 0x1a);
                due("field " + k + " by " + op, mod.loaded(), good ? 0 : -2);
                Support.Mod array = new Support.Mod();
                array.type(0x5e, fields[k], 0);
                array.fn(array.type(0x60, 0, 0), 0xd0, 0, 0x41, 0, 0xfb, op + 9, 0, 0x1a);
                due("element " + k + " by " + (op + 9), array.loaded(), good ? 0 : -2);
            }
        }
    }

    /* "1: with 0s and nulls (all fields must have that)", "7: n 0s or nulls (an element must have that)". */
    private static void defaults() {
        int[][] parts = {b(0x78), b(0x77), b(I32), b(I64), b(0x6d), b(0x6c), b(0x63, 0), b(0x64, 0x6d), b(0x64, 0x6c), b(0x64, 0)};
        for (int k = 0; k < parts.length; k++) {
            int want = k < 7 ? 0 : -2;
            for (int place = 0; place < 3; place++) {
                Support.Mod mod = new Support.Mod();
                mod.type(0x5f, 0);
                int type = mod.type(0x5f, 3, place == 0 ? parts[k] : I, 0, place == 1 ? parts[k] : I, 0, place == 2 ? parts[k] : I, 0);
                mod.fn(mod.type(0x60, 0, 0), 0xfb, 1, type, 0x1a);
                due("a field " + k + " at " + place, mod.loaded(), want);
            }
            Support.Mod array = new Support.Mod();
            array.type(0x5f, 0);
            int type = array.type(0x5e, parts[k], 0);
            array.fn(array.type(0x60, 0, 0), 0x41, 0, 0xfb, 7, type, 0x1a);
            due("an element " + k, array.loaded(), want);
        }
    }

    /* "8 U type U n (at most 64)". */
    private static void elementsTold() {
        for (int n : new int[] {0, 1, 63, 64, 65, 100}) {
            due("told " + n, answer(NONE, Support.many(n, 0xd0, 0), 0xfb, 8, 2, Support.u(n), 0x1a), n <= 64 ? 0 : -2);
            due("told " + n + ", can't be come to", answer(NONE, 0x00, 0xfb, 8, 2, Support.u(n), 0x1a), n <= 64 ? 0 : -2);
            if (n > 0) {
                bad("one too few", NONE, Support.many(n - 1, 0xd0, 0), 0xfb, 8, 2, Support.u(n), 0x1a);
                bad("the deepest of another type", NONE, 0x41, 0, Support.many(n - 1, 0xd0, 0), 0xfb, 8, 2, Support.u(n), 0x1a);
            }
        }
        bad("2^32 - 1", NONE, 0x00, 0xfb, 8, 2, 0xff, 0xff, 0xff, 0xff, 0x0f, 0x00);
        bad("2^32 - 2^31", NONE, 0x00, 0xfb, 8, 2, 0x80, 0x80, 0x80, 0x80, 0x08, 0x00);
    }

    /* "15 (of a reference to any array's type)". */
    private static void lengths() {
        good("an array", ONE, 0xd0, 2, 0xfb, 15);
        good("an array that is not null", ONE, 0xfb, 8, 2, 0, 0xfb, 15);
        bad("a structure", ONE, 0xd0, 0, 0xfb, 15);
        bad("anything", ONE, 0xd0, 0x6d, 0xfb, 15);
        bad("small ones", ONE, 0xd0, 0x6c, 0xfb, 15);
        bad("a number", ONE, 0x41, 0, 0xfb, 15);
        bad("nothing", ONE, 0xfb, 15);
        Support.Mod last = new Support.Mod();
        for (int k = 0; k < 62; k++) {
            last.type(0x5f, 0);
        }
        last.type(0x5e, I32, 0);
        last.fn(last.type(0x60, 0, 1, I32), 0xd0, 62, 0xfb, 15);
        due("the last type but one", last.loaded(), 0);
    }

    /* "the reference must be one to anything, or smaller", "29, 30: those". */
    private static void castsAndSmallOnes() {
        int[][] references = {b(0xd0, 0x6d), b(0xd0, 0x6c), b(0xd0, 0), b(0xd0, 2), b(0xfb, 1, 0), b(0x41, 0, 0xfb, 28)};
        for (int op = 20; op <= 23; op++) {
            for (int[] reference : references) {
                for (int target : new int[] {0x6d, 0x6c, 0, 2}) {
                    good("any reference to any target", NONE, reference, 0xfb, op, target, 0x1a);
                }
            }
            bad("a number", NONE, 0x41, 0, 0xfb, op, 0x6d, 0x1a);
            bad("an i64", NONE, 0x42, 0, 0xfb, op, 0x6c, 0x1a);
            bad("nothing", NONE, 0xfb, op, 0x6d, 0x1a);
        }
        good("22 is not null", List.of(b(0x64, 0)), 0xd0, 0x6d, 0xfb, 22, 0);
        bad("23 may be null", List.of(b(0x64, 0)), 0xd0, 0x6d, 0xfb, 23, 0);
        good("23 is of the type", List.of(b(0x63, 1)), 0xd0, 0x6d, 0xfb, 23, 0);
        for (int op = 29; op <= 30; op++) {
            good("of a small one", ONE, 0xd0, 0x6c, 0xfb, op);
            good("of one that is not null", ONE, 0x41, 0, 0xfb, 28, 0xfb, op);
            bad("of anything", ONE, 0xd0, 0x6d, 0xfb, op);
            bad("of a structure", ONE, 0xd0, 0, 0xfb, op);
            bad("of a number", ONE, 0x41, 0, 0xfb, op);
        }
        good("28 is not null", List.of(b(0x64, 0x6c)), 0x41, 0, 0xfb, 28);
        bad("28 of an i64", List.of(b(0x64, 0x6c)), 0x42, 0, 0xfb, 28);
    }

    /* "0x0d, 0xd5 and 0xd6 leave the values that they would take, with the types of the end". */
    private static void branchesLeaveTheTypesOfTheEnd() {
        int[] small = b(0x41, 0, 0xfb, 28);
        good("without a branch it is small", ANY, small, 0xfb, 29, 0x1a, small);
        bad("behind 0x0d it is anything", ANY, small, 0x41, 0, 0x0d, 0, 0xfb, 29, 0x1a, small);
        bad("behind 0xd5", ANY, small, 0xd0, 0, 0xd5, 0, 0x1a, 0xfb, 29, 0x1a, small);
        bad("behind 0xd6", List.of(b(0x6d), b(0x6d)), small, 0xd0, 0, 0xd6, 0, 0xfb, 29, 0x1a, small, small);
        good("behind 0x0d as anything", ANY, small, 0x41, 0, 0x0d, 0);
        good("behind 0xd5 as anything", ANY, small, 0xd0, 0, 0xd5, 0, 0x1a);
        good("behind 0xd6 as anything", List.of(b(0x6d), b(0x6d)), small, 0xd0, 0, 0xd6, 0, small);
        good("values below are as they were", ANY, small, small, 0x41, 0, 0x0d, 0, 0x1a, 0xfb, 29, 0x1a, small);
        good("0xd5 leaves it not null", List.of(b(0x64, 0)), 0x02, 0x40, 0xd0, 0, 0xd5, 0, 0x0f, 0x0b, 0x00);
        bad("as 0xd0 does not", List.of(b(0x64, 0)), 0xd0, 0);
        bad("0xd6 leaves none", ANY, 0xd0, 0, 0xd6, 0);
        bad("0x0d without the value", ONE, 0x41, 0, 0x0d, 0, 0x41, 0);
        bad("0xd5 without the value", ONE, 0xd0, 0, 0xd5, 0, 0x1a, 0x41, 0);
    }

    /* "with it, not null, as the last value (the block's last type must fit)". */
    private static void lastTypeOfTheBlock() {
        good("not null", List.of(b(0x64, 0)), 0xd0, 0, 0xd6, 0, 0x00);
        good("or null", List.of(b(0x63, 0)), 0xd0, 0, 0xd6, 0, 0x00);
        good("anything", List.of(b(0x64, 0x6d)), 0xd0, 0, 0xd6, 0, 0x00);
        good("one that is the same", List.of(b(0x64, 1)), 0xd0, 0, 0xd6, 0, 0x00);
        bad("another one", List.of(b(0x64, 3)), 0xd0, 0, 0xd6, 0, 0x00);
        bad("small", List.of(b(0x6c)), 0xd0, 0, 0xd6, 0, 0x00);
        bad("a number", ONE, 0xd0, 0, 0xd6, 0, 0x00);
        bad("none at all", NONE, 0xd0, 0, 0xd6, 0, 0x00);
        good("the last of two", List.of(I, b(0x6d)), 0x41, 0, 0xd0, 0, 0xd6, 0, 0x00);
        bad("the first of two", List.of(b(0x6d), I), 0x41, 0, 0xd0, 0, 0xd6, 0, 0x00);
        bad("without the first of two", List.of(I, b(0x6d)), 0xd0, 0, 0xd6, 0, 0x00);
        bad("a loop of none", ANY, 0x03, 0x6d, 0xd0, 0, 0xd6, 0, 0x00, 0x0b);
        good("a loop of one", ANY, 0xd0, 0x6c, 0x03, 8, 0xd6, 0, 0x00, 0x0b);
        bad("a loop of one that does not fit", ANY, 0xd0, 0x6c, 0x03, 8, 0xd0, 0x6d, 0xd6, 0, 0x00, 0x0b);
    }
}

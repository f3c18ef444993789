import java.util.List;

/** Promise 3: what of a module cannot be read (-1), is refused (-3), or can be read and is not right (-2). */
public final class ReadTest {
    private static final int[] NOTHING = {};

    public static void main(String[] args) {
        heads();
        sections();
        numbers();
        types();
        typeRows();
        functions();
        tablesAndMemories();
        globals();
        exports();
        starts();
        segments();
        bodies();
        locals();
        blocks();
        instructions();
        objectInstructions();
        whichComesFirst();
        afterAnError();
        Support.end();
    }

    private static void due(String what, int got, int want) {
        Support.due(what, got, want);
    }

    private static int[] b(Object... parts) {
        return Support.b(parts);
    }

    private static int[] section(int number, Object... parts) {
        return Support.section(number, parts);
    }

    private static int loaded(Object... sections) {
        return Support.loaded(Support.HEAD, Support.b(sections));
    }

    /** A module with one function, without parameters or results. */
    private static int body(Object... code) {
        return Support.one(NOTHING, NOTHING, code).loaded();
    }

    private static void heads() {
        due("nothing", Support.loaded(), -1);
        due("the head alone", Support.loaded(Support.HEAD), 0);
        for (int k = 0; k < 8; k++) {
            int[] head = Support.HEAD.clone();
            head[k] ^= 2;
            due("another byte " + k, Support.loaded(head), -1);
            due("cut at " + k, Support.loaded(java.util.Arrays.copyOf(Support.HEAD, k)), -1);
        }
    }

    private static void sections() {
        for (int number : new int[] {2, 12, 13, 14, 127, 128, 255}) {
            due("section " + number, loaded(section(number, 0)), -1);
        }
        for (int number : new int[] {1, 3, 4, 5, 6, 7, 9, 10, 11}) {
            due("section " + number + " with an empty row", loaded(section(number, 0)), 0);
            due("section " + number + " twice", loaded(section(number, 0), section(number, 0)), -1);
            due("section " + number + " without content", loaded(section(number)), -1);
            due("section " + number + " with a byte too many", loaded(section(number, 0, 0)), -1);
            due("section " + number + " too short on the tape", loaded(b(number, 2, 0)), -1);
        }
        due("in rising order", loaded(section(1, 0), section(3, 0), section(5, 0), section(11, 0)), 0);
        due("not in rising order", loaded(section(3, 0), section(1, 0)), -1);
        due("number 0 anywhere", loaded(section(0), section(1, 0), section(0, 255, 255), section(3, 0), section(0, 1)), 0);
        due("number 0 does not hide a second one", loaded(section(1, 0), section(0), section(1, 0)), -1);
        due("number 0 too short on the tape", loaded(b(0, 3, 1, 2)), -1);
        due("a number alone", loaded(b(0)), -1);
        due("a size in five bytes", loaded(b(1, 0x81, 0x80, 0x80, 0x80, 0x00, 0)), 0);
    }

    private static void numbers() {
        due("U of 5 bytes", loaded(section(1, 0x80, 0x80, 0x80, 0x80, 0x00)), 0);
        due("U of 6 bytes", loaded(section(1, 0x80, 0x80, 0x80, 0x80, 0x80, 0x00)), -1);
        due("U of 2^32", loaded(section(8, 0x80, 0x80, 0x80, 0x80, 0x10)), -1);
        due("U of 2^32 - 1 is good, but not there", loaded(section(8, 0xff, 0xff, 0xff, 0xff, 0x0f)), -2);
        due("U cut short", loaded(section(8, 0x80)), -1);
        due("U of 127", loaded(section(5, 1, 0, 1), section(11, 1, 0, 0x41, 0, 0x0b, 0x7f, Support.many(127, 9))), 0);
        due("U of 127 in two bytes", loaded(section(5, 1, 0, 1), section(11, 1, 0, 0x41, 0, 0x0b, 0xff, 0, Support.many(127, 9))), 0);
        due("U cut short by the section's end", loaded(section(8, 0x80), section(9, 0)), -1);
        int[][] good32 = {b(0x80, 0x80, 0x80, 0x80, 0x78), b(0xff, 0xff, 0xff, 0xff, 0x07), b(0xff, 0xff, 0xff, 0xff, 0x7f), b(0x80, 0x00)};
        int[][] bad32 = {b(0x80, 0x80, 0x80, 0x80, 0x70), b(0xff, 0xff, 0xff, 0xff, 0x0f), b(0xff, 0xff, 0xff, 0xff, 0xff, 0x7f), b(0x80, 0x80, 0x80, 0x80, 0x08)};
        for (int[] number : good32) {
            due("S32", loaded(section(6, 1, 0x7f, 0, 0x41, number, 0x0b)), 0);
        }
        for (int[] number : bad32) {
            due("no S32", loaded(section(6, 1, 0x7f, 0, 0x41, number, 0x0b)), -1);
        }
        int[] nine = Support.many(9, 0x80);
        int[] nineFull = Support.many(9, 0xff);
        for (int[] number : new int[][] {b(nine, 0x7f), b(nine, 0x00), b(nineFull, 0x00), b(nineFull, 0x7f)}) {
            due("S64", loaded(section(6, 1, 0x7e, 0, 0x42, number, 0x0b)), 0);
        }
        for (int[] number : new int[][] {b(nine, 0x01), b(nine, 0x7e), b(nineFull, 0x40), b(nineFull, 0xff, 0x7f), b(nine, 0x3f)}) {
            due("no S64", loaded(section(6, 1, 0x7e, 0, 0x42, number, 0x0b)), -1);
        }
        int[] array = b(2, 0x5e, 0x7f, 0, 0x5e, 0x63);
        due("S33", loaded(section(1, array, 0x80, 0x80, 0x80, 0x80, 0x00, 0)), 0);
        due("S33 of 2^32 - 1", loaded(section(1, array, 0xff, 0xff, 0xff, 0xff, 0x0f, 0)), -2);
        due("beyond S33", loaded(section(1, array, 0x80, 0x80, 0x80, 0x80, 0x10, 0)), -1);
        due("S33 below 0", loaded(section(1, array, 0x7f, 0)), -1);
        due("S33 below 0 in two bytes", loaded(section(1, array, 0xed, 0x7f, 0)), -1);
        due("S33 below 0 in five bytes", loaded(section(1, array, 0x80, 0x80, 0x80, 0x80, 0x70, 0)), -1);
    }

    private static int type(Object... parts) {
        return loaded(section(1, 1, Support.b(parts)));
    }

    private static void types() {
        for (int kind : new int[] {0, 0x4e, 0x50, 0x5d, 0x61, 0x7f}) {
            due("a type that begins with " + kind, type(kind, 0, 0), -1);
        }
        for (int value : new int[] {0x7f, 0x7e, 0x6d, 0x6c}) {
            due("parameter " + value, type(0x60, 1, value, 0), 0);
            due("result " + value, type(0x60, 0, 1, value), 0);
            due("field " + value, type(0x5f, 1, value, 0), 0);
            due("element " + value, type(0x5e, value, 1), 0);
        }
        for (int value : new int[] {0x7d, 0x7c, 0x7b, 0x70, 0x6f, 0x6e, 0x6b, 0x6a, 0x62, 0x65, 0x40, 0}) {
            due("no parameter " + value, type(0x60, 1, value, 0), -1);
            due("no field " + value, type(0x5f, 1, value, 0), -1);
        }
        due("8 bits are no parameter", type(0x60, 1, 0x78, 0), -1);
        due("8 bits are a field", type(0x5f, 2, 0x78, 0, 0x77, 1), 0);
        due("2 for can be set", type(0x5f, 1, 0x7f, 2), -1);
        due("0x63 to anything", type(0x5e, 0x63, 0x6d, 0), 0);
        due("0x64 to small ones", type(0x5e, 0x64, 0x6c, 0), 0);
        due("0x64 to other kinds", type(0x5e, 0x64, 0x6e, 0), -1);
        due("a structure with itself", type(0x5f, 1, 0x64, 0, 0), 0);
        due("a target greater than itself", loaded(section(1, 2, 0x5f, 1, 0x63, 1, 0, 0x5f, 0)), -2);
        due("a target that is a function's type", loaded(section(1, 2, 0x60, 0, 0, 0x5f, 1, 0x63, 0, 0)), -2);
        due("a function's type with itself", type(0x60, 1, 0x63, 0, 0), -2);
        due("a function's type with itself as a result", type(0x60, 0, 1, 0x63, 0), -2);
        due("a result that comes later", loaded(section(1, 2, 0x60, 0, 1, 0x63, 1, 0x5f, 0)), -2);
        due("a second result that comes later", loaded(section(1, 2, 0x60, 0, 2, 0x7f, 0x64, 1, 0x5f, 0)), -2);
        due("a parameter that comes later", loaded(section(1, 2, 0x60, 1, 0x63, 1, 0, 0x5f, 0)), -2);
        due("a function's type with a structure before", loaded(section(1, 2, 0x5f, 0, 0x60, 1, 0x63, 0, 1, 0x64, 0)), 0);
        due("a number that is not there", type(0x5e, 0x63, 1, 0), -2);
        due("cut within", type(0x5f, 2, 0x7f, 0), -1);
    }

    private static void typeRows() {
        due("64 types", loaded(section(1, 64, Support.many(64, 0x5f, 0))), 0);
        due("65 types", loaded(section(1, 65, Support.many(65, 0x5f, 0))), -2);
        due("300 types", loaded(section(1, 0xac, 0x02, Support.many(300, 0x5f, 0))), -2);
        due("65 types and one that can't be read", loaded(section(1, 66, Support.many(65, 0x5f, 0), 0x5d)), -1);
        due("16 fields", type(0x5f, 16, Support.many(16, 0x7f, 0)), 0);
        due("17 fields", type(0x5f, 17, Support.many(17, 0x7f, 0)), -2);
        due("16 parameters and results", type(0x60, 16, Support.many(16, 0x7f), 16, Support.many(16, 0x7e)), 0);
        due("17 parameters", type(0x60, 17, Support.many(17, 0x7f), 0), -2);
        due("17 results", type(0x60, 0, 17, Support.many(17, 0x7f)), -2);
        int[] full = b(0x60, 16, Support.many(16, 0x7f), 16, Support.many(16, 0x7e));
        due("64 full types", loaded(section(1, 64, Support.many(64, full))), 0);
        int[] over = b(0x60, 18, Support.many(18, 0x7f), 18, Support.many(18, 0x7e));
        due("70 types too long", loaded(section(1, 70, Support.many(70, over))), -2);
        due("70 structures too long", loaded(section(1, 70, Support.many(70, 0x5f, 30, Support.many(30, 0x78, 1)))), -2);
        due("a row that goes on behind the end", loaded(section(1, 0xff, 0xff, 0xff, 0xff, 0x0f, 0x5f, 0)), -1);
    }

    private static void functions() {
        int[] type = section(1, 1, 0x60, 0, 0);
        due("functions without code", loaded(type, section(3, 1, 0)), -2);
        due("code without functions", loaded(type, section(10, 1, 2, 0, 0x0b)), -2);
        due("an empty row of code", loaded(type, section(3, 0), section(10, 0)), 0);
        due("as many", loaded(type, section(3, 1, 0), section(10, 1, 2, 0, 0x0b)), 0);
        due("one too many", loaded(type, section(3, 1, 0), section(10, 2, 2, 0, 0x0b, 2, 0, 0x0b)), -2);
        due("a type that is not there", loaded(type, section(3, 1, 1), section(10, 1, 2, 0, 0x0b)), -2);
        due("a type that is no function's", loaded(section(1, 1, 0x5f, 0), section(3, 1, 0), section(10, 1, 2, 0, 0x0b)), -2);
        int[] body = {2, 0, 0x0b};
        due("64 functions", loaded(type, section(3, 64, Support.many(64, 0)), section(10, 64, Support.many(64, body))), 0);
        due("65 functions", loaded(type, section(3, 65, Support.many(65, 0)), section(10, 65, Support.many(65, body))), -2);
    }

    private static void tablesAndMemories() {
        due("a table", loaded(section(4, 1, 0x70, 0, 64)), 0);
        due("a table of 65", loaded(section(4, 1, 0x70, 0, 65)), -2);
        due("a table's most", loaded(section(4, 1, 0x70, 1, 3, 0xff, 0xff, 0xff, 0xff, 0x0f)), 0);
        due("a table's most, just so", loaded(section(4, 1, 0x70, 1, 3, 3)), 0);
        due("a table's most below", loaded(section(4, 1, 0x70, 1, 3, 2)), -2);
        due("two tables", loaded(section(4, 2, 0x70, 0, 1, 0x70, 0, 1)), -2);
        due("a table of other things", loaded(section(4, 1, 0x6f, 0, 1)), -1);
        due("limits 2", loaded(section(4, 1, 0x70, 2, 1, 1)), -1);
        due("a memory", loaded(section(5, 1, 0, 16)), 0);
        due("a memory of 17", loaded(section(5, 1, 0, 17)), -2);
        due("a memory's most", loaded(section(5, 1, 1, 2, 0x80, 0x80, 4)), 0);
        due("a memory's most below", loaded(section(5, 1, 1, 2, 1)), -2);
        due("two memories", loaded(section(5, 2, 0, 1, 0, 1)), -2);
        due("a memory with limits 3", loaded(section(5, 1, 3, 1, 1)), -1);
        due("limits cut short", loaded(section(5, 1, 1, 2)), -1);
    }

    private static int global(Object... parts) {
        return loaded(section(1, 2, 0x5f, 0, 0x60, 0, 0), section(6, 1, Support.b(parts)));
    }

    private static void globals() {
        due("an i32", global(0x7f, 0, 0x41, 0, 0x0b), 0);
        due("an i64", global(0x7e, 1, 0x42, 0, 0x0b), 0);
        due("an i32 by an i64", global(0x7f, 0, 0x42, 0, 0x0b), -2);
        due("an i64 by an i32", global(0x7e, 0, 0x41, 0, 0x0b), -2);
        due("anything by null of small ones", global(0x6d, 0, 0xd0, 0x6c, 0x0b), 0);
        due("anything by null of a structure", global(0x6d, 0, 0xd0, 0, 0x0b), 0);
        due("a structure by its null", global(0x63, 0, 0, 0xd0, 0, 0x0b), 0);
        due("a structure by null of anything", global(0x63, 0, 0, 0xd0, 0x6d, 0x0b), -2);
        due("not null by null", global(0x64, 0, 0, 0xd0, 0, 0x0b), -2);
        due("a type that is not there", global(0x63, 2, 0, 0xd0, 0, 0x0b), -2);
        due("a function's type", global(0x63, 1, 0, 0xd0, 1, 0x0b), -2);
        due("null of a type that is not there", global(0x6d, 0, 0xd0, 2, 0x0b), -2);
        due("can be set by 2", global(0x7f, 2, 0x41, 0, 0x0b), -1);
        due("another instruction", global(0x7f, 0, 0x23, 0, 0x0b), -1);
        due("an instruction that is refused elsewhere", global(0x7f, 0, 0x43, 0, 0, 0, 0, 0x0b), -1);
        due("two instructions", global(0x7f, 0, 0x41, 0, 0x41, 0, 0x0b), -1);
        due("no end", global(0x7f, 0, 0x41, 0), -1);
        int[] one = {0x7f, 0, 0x41, 0, 0x0b};
        due("64 globals", loaded(section(6, 64, Support.many(64, one))), 0);
        due("65 globals", loaded(section(6, 65, Support.many(65, one))), -2);
    }

    private static int export(Object... parts) {
        return loaded(section(1, 1, 0x60, 0, 0), section(3, 1, 0), section(4, 1, 0x70, 0, 0), section(5, 1, 0, 0),
                section(6, 1, 0x7f, 0, 0x41, 0, 0x0b), section(7, Support.b(parts)), section(10, 1, 2, 0, 0x0b));
    }

    private static void exports() {
        for (int kind = 0; kind <= 3; kind++) {
            due("export of kind " + kind, export(1, 1, 'a', kind, 0), 0);
            due("not there, of kind " + kind, export(1, 1, 'a', kind, 1), -2);
            due("nothing of kind " + kind, loaded(section(7, 1, 1, 'a', kind, 0)), -2);
        }
        due("kind 4", export(1, 1, 'a', 4, 0), -1);
        due("the same name", export(2, 1, 'a', 0, 0, 1, 'a', 3, 0), -2);
        due("the same longer name", export(3, 2, 'a', 'b', 0, 0, 1, 'a', 0, 0, 2, 'a', 'b', 0, 0), -2);
        due("other names", export(3, 2, 'a', 'b', 0, 0, 1, 'a', 0, 0, 2, 'a', 'c', 0, 0), 0);
        due("no name, and any bytes", export(2, 0, 0, 0, 2, 0xff, 0xc0, 0, 0), 0);
        due("no name twice", export(2, 0, 0, 0, 0, 1, 0), -2);
        due("a name behind the end", export(1, 100, 'a', 0, 0), -1);
        int[] all = {};
        for (int k = 0; k < 65; k++) {
            all = b(all, 1, k, 0, 0);
            if (k == 63) {
                due("64 exports", export(64, all), 0);
            }
        }
        due("65 exports", export(65, all), -2);
    }

    private static void starts() {
        due("a start", Support.loaded(startOf(b(0x60, 0, 0), b(0), NOTHING)), 0);
        due("with parameters", Support.loaded(startOf(b(0x60, 1, 0x7f, 0), b(0), NOTHING)), -2);
        due("with results", Support.loaded(startOf(b(0x60, 0, 1, 0x7f), b(0), b(0x41, 0))), -2);
        due("not there", Support.loaded(startOf(b(0x60, 0, 0), b(1), NOTHING)), -2);
        due("two numbers", Support.loaded(startOf(b(0x60, 0, 0), b(0, 0), NOTHING)), -1);
    }

    private static int[] startOf(int[] type, int[] start, int[] code) {
        Support.Mod mod = new Support.Mod();
        mod.fn(mod.type(type), code);
        mod.start = start;
        return mod.build();
    }

    private static int element(Object... parts) {
        return loaded(section(1, 1, 0x60, 0, 0), section(3, 1, 0), section(4, 1, 0x70, 0, 2),
                section(9, Support.b(parts)), section(10, 1, 2, 0, 0x0b));
    }

    private static void segments() {
        due("an element", element(1, 0, 0x41, 0, 0x0b, 2, 0, 0), 0);
        due("an empty element", element(1, 0, 0x41, 2, 0x0b, 0), 0);
        due("a function that is not there", element(1, 0, 0x41, 0, 0x0b, 1, 1), -2);
        for (int mark : new int[] {1, 2, 4, 0x80}) {
            due("an element that begins with " + mark, element(1, mark, 0x41, 0, 0x0b, 1, 0), -1);
        }
        due("a place that is no S32", element(1, 0, 0x41, 0x80, 0x80, 0x80, 0x80, 0x08, 0x0b, 0), -1);
        due("the greatest place", element(1, 0, 0x41, 0xff, 0xff, 0xff, 0xff, 0x07, 0x0b, 0), 5);
        due("the least place", element(1, 0, 0x41, 0x80, 0x80, 0x80, 0x80, 0x78, 0x0b, 0), 5);
        Support.Mod ways = Support.oneWith(new Support.Mod().table(0, 2), NOTHING, NOTHING, 0x02, 0x40, 0x41, 0, 0x0e, 1, 1, 1, 0x0b);
        due("an element, and ways with greater numbers", ways.element(0, 0).loaded(), 0);
        due("an i64 place", element(1, 0, 0x42, 0, 0x0b, 1, 0), -1);
        due("no end", element(1, 0, 0x41, 0, 1, 0), -1);
        due("an element without a table", loaded(section(9, 1, 0, 0x41, 0, 0x0b, 0)), -2);
        due("64 elements", element(64, Support.many(64, 0, 0x41, 0, 0x0b, 0)), 0);
        due("65 elements", element(65, Support.many(65, 0, 0x41, 0, 0x0b, 0)), -2);
        int[] memory = section(5, 1, 0, 1);
        due("data", loaded(memory, section(11, 1, 0, 0x41, 0, 0x0b, 2, 1, 2)), 0);
        due("data of 1000 bytes", loaded(memory, section(11, 1, 0, 0x41, 0, 0x0b, 0xe8, 7, Support.many(1000, 3))), 0);
        due("data without a memory", loaded(section(11, 1, 0, 0x41, 0, 0x0b, 0)), -2);
        due("data that begins with 1", loaded(memory, section(11, 1, 1, 0x41, 0, 0x0b, 0)), -1);
        due("data behind the end", loaded(memory, section(11, 1, 0, 0x41, 0, 0x0b, 2, 1)), -1);
        due("64 data", loaded(memory, section(11, 64, Support.many(64, 0, 0x41, 0, 0x0b, 0))), 0);
        due("65 data", loaded(memory, section(11, 65, Support.many(65, 0, 0x41, 0, 0x0b, 0))), -2);
    }

    private static int code(Object... parts) {
        return loaded(section(1, 1, 0x60, 0, 0), section(3, 1, 0), section(10, Support.b(parts)));
    }

    private static void bodies() {
        due("a body", code(1, 2, 0, 0x0b), 0);
        due("no end", code(1, 2, 0, 0x01), -1);
        due("an end too early", code(1, 3, 0, 0x0b, 0x01), -1);
        due("two ends", code(1, 3, 0, 0x0b, 0x0b), -1);
        due("a body longer than the section", code(1, 3, 0, 0x0b), -1);
        due("a body shorter than it says", code(1, 1, 0, 0x0b), -1);
        due("an instruction over the end", code(1, 3, 0, 0x41, 0x80, 0x0b), -1);
        due("no bytes at all", code(1, 0), -1);
        int[] two = b(section(1, 1, 0x60, 0, 0), section(3, 2, 0, 0));
        due("two bodies", loaded(two, section(10, 2, 2, 0, 0x0b, 2, 0, 0x0b)), 0);
        due("a body that goes into the next", loaded(two, section(10, 2, 3, 0, 0x0b, 2, 0, 0x0b)), -1);
        due("a body that goes over the next", loaded(two, section(10, 2, 5, 0, 0x0b, 2, 0, 0x0b)), -1);
        for (int[] number : new int[][] {b(0x80, 0x80, 0x80, 0x80, 0x70), b(0xff, 0xff, 0xff, 0xff, 0x0f), b(0x80, 0x80, 0x80, 0x80, 0x08)}) {
            due("no S32 in code", body(0x41, number, 0x1a), -1);
        }
        due("the least S32 in code", body(0x41, 0x80, 0x80, 0x80, 0x80, 0x78, 0x1a), 0);
        due("the least S64 in code", body(0x42, Support.many(9, 0x80), 0x7f, 0x1a), 0);
        due("no S64 in code", body(0x42, Support.many(9, 0x80), 0x7e, 0x1a), -1);
        due("a block left open", body(0x02, 0x40), -1);
    }

    private static void locals() {
        Support.Mod mod = new Support.Mod();
        int type = mod.type(0x60, 2, 0x7f, 0x7e, 0);
        mod.fnWith(type, b(2, 100, 0x7f, 98, 0x6d));
        due("200 locals with the parameters", mod.loaded(), 0);
        mod.fnWith(type, b(2, 100, 0x7f, 99, 0x7f));
        due("201 locals with the parameters", mod.loaded(), -2);
        due("2^32 - 1 locals, twice", code(1, 14, 2, 0xff, 0xff, 0xff, 0xff, 0x0f, 0x7f, 0xff, 0xff, 0xff, 0xff, 0x0f, 0x7f, 0x0b), -2);
        due("a local that is not null", code(1, 5, 1, 1, 0x64, 0x6d, 0x0b), -2);
        due("none of those that are not null", code(1, 5, 1, 0, 0x64, 0x6d, 0x0b), -2);
        due("a local of a type that is not there", code(1, 5, 1, 1, 0x63, 1, 0x0b), -2);
        due("a local of a function's type", code(1, 5, 1, 1, 0x63, 0, 0x0b), -2);
        due("a local of another kind", code(1, 4, 1, 1, 0x7d, 0x0b), -1);
        due("a local of 8 bits", code(1, 4, 1, 1, 0x78, 0x0b), -1);
        due("60 groups of none", code(1, 122, 60, Support.many(60, 0, 0x7f), 0x0b), 0);
    }

    private static void blocks() {
        due("else outside of if", body(0x05), -1);
        due("else in a block", body(0x02, 0x40, 0x05, 0x0b), -1);
        due("else in a loop", body(0x03, 0x40, 0x05, 0x0b), -1);
        due("else", body(0x41, 0, 0x04, 0x40, 0x05, 0x0b), 0);
        due("a second else", body(0x41, 0, 0x04, 0x40, 0x05, 0x05, 0x0b), -1);
        due("an if within, with an else", body(0x41, 0, 0x04, 0x40, 0x05, 0x41, 0, 0x04, 0x40, 0x05, 0x0b, 0x0b), 0);
        due("else in a block within an if", body(0x41, 0, 0x04, 0x40, 0x02, 0x40, 0x05, 0x0b, 0x0b), -1);
        due("a block type that is no type", body(0x02, 0x7d, 0x0b), -1);
        due("a block type below 0", body(0x02, 0xc0, 0x7f, 0x0b), -1);
        due("a block type by number", body(0x02, 0, 0x0b), 0);
        due("a block type by number in two bytes", body(0x02, 0x80, 0x00, 0x0b), 0);
        due("a block type that is not there", body(0x02, 1, 0x0b), -2);
        due("a block type of 2^31 is not there", body(0x02, 0x80, 0x80, 0x80, 0x80, 0x08, 0x0b), -2);
        due("a block type of 2^32 - 1 is not there", body(0x02, 0xff, 0xff, 0xff, 0xff, 0x0f, 0x0b), -2);
        due("a block type of 2^32", body(0x02, 0x80, 0x80, 0x80, 0x80, 0x10, 0x0b), -1);
        due("a value type that is not there", body(0x02, 0x63, 1, 0x00, 0x0b, 0x1a), -2);
        due("a value type that is a function's", body(0x02, 0x63, 0, 0x00, 0x0b, 0x1a), -2);
        due("a block type that is a structure",
                Support.oneWith(structureFirst(), NOTHING, NOTHING, 0x02, 0, 0x0b).loaded(), -2);
    }

    private static Support.Mod structureFirst() {
        Support.Mod mod = new Support.Mod();
        mod.type(0x5f, 0);
        return mod;
    }

    private static boolean within(int op, int... ranges) {
        for (int k = 0; k < ranges.length; k += 2) {
            if (op >= ranges[k] && op <= ranges[k + 1]) {
                return true;
            }
        }
        return false;
    }

    private static void instructions() {
        for (int op = 0; op < 256; op++) {
            boolean refused = within(op, 0x1c, 0x1d, 0x25, 0x26, 0x2a, 0x2b, 0x38, 0x39, 0x43, 0x44, 0x5b, 0x66,
                    0x8b, 0xa6, 0xa8, 0xab, 0xae, 0xbf, 0xd2, 0xd2, 0xfc, 0xfd);
            boolean known = within(op, 0x00, 0x04, 0x0b, 0x11, 0x1a, 0x1b, 0x20, 0x24, 0x28, 0x29, 0x2c, 0x37,
                    0x3a, 0x42, 0x45, 0x5a, 0x67, 0x8a, 0xa7, 0xa7, 0xac, 0xad, 0xc0, 0xc4, 0xd0, 0xd1, 0xd3, 0xd6, 0xfb, 0xfb);
            if (!known) {
                due("instruction " + Integer.toHexString(op), body(0x00, op), refused ? -3 : -1);
            }
        }
        for (int op = 0x28; op <= 0x3e; op++) {
            if (!within(op, 0x2a, 0x2b, 0x38, 0x39)) {
                due("without a memory " + op, body(0x00, op, 0, 0), -2);
                due("without an offset " + op, code(1, 4, 0, op, 0, 0x0b), -1);
            }
        }
        due("pages and a byte 1", body(0x00, 0x3f, 1), -1);
        due("pages and 0 in two bytes", body(0x00, 0x3f, 0x80, 0), -1);
        due("more pages and a byte 1", body(0x00, 0x40, 1), -1);
        due("a table that is not the first", new Support.Mod().table(0, 1).loaded(), 0);
        Support.Mod mod = Support.oneWith(new Support.Mod().table(0, 1), NOTHING, NOTHING, 0x00, 0x11, 0, 1);
        due("by another table than the first", mod.loaded(), -2);
        due("by the table", Support.oneWith(new Support.Mod().table(0, 1), NOTHING, NOTHING, 0x00, 0x11, 0, 0).loaded(), 0);
        due("by 0 in two bytes", Support.oneWith(new Support.Mod().table(0, 1), NOTHING, NOTHING, 0x00, 0x11, 0, 0x80, 0).loaded(), 0);
        due("null of other kinds", body(0xd0, 0x70, 0x1a), -1);
        due("null", body(0xd0, 0x6d, 0x1a), 0);
    }

    private static void objectInstructions() {
        List<Integer> refused = List.of(9, 10, 17, 18, 19, 24, 25, 26, 27);
        for (int op : refused) {
            due("0xfb " + op, body(0x00, 0xfb, op), -3);
            due("0xfb " + op + " in two bytes", body(0x00, 0xfb, op | 0x80, 0), -3);
        }
        for (int op : new int[] {31, 32, 64, 127}) {
            due("0xfb " + op, body(0x00, 0xfb, op), -1);
        }
        due("0xfb 2^32 - 1", body(0x00, 0xfb, 0xff, 0xff, 0xff, 0xff, 0x0f), -1);
        due("0xfb and no U", body(0x00, 0xfb, 0xff, 0xff, 0xff, 0xff, 0x1f), -1);
        due("0xfb 20 to other kinds", body(0x00, 0xfb, 20, 0x6e), -1);
        due("0xfb 20 to what is not there", body(0x00, 0xfb, 20, 9), -2);
        due("0xfb 28 in two bytes", body(0x41, 1, 0xfb, 0x80 | 28, 0, 0x1a), 0);
    }

    private static void whichComesFirst() {
        due("refused, then malformed", body(0x43, 0x06), -3);
        due("malformed, then refused", body(0x06, 0x43), -1);
        due("invalid, then malformed", body(0x1a, 0x06), -1);
        due("invalid, then refused", body(0x1a, 0xfd), -3);
        Support.Mod mod = Support.one(NOTHING, NOTHING, 0xfc);
        mod.last = b(12, 0);
        due("refused in the code, a bad section behind", mod.loaded(), -3);
        mod = Support.one(NOTHING, NOTHING, 0x1a);
        mod.last = b(12, 0);
        due("invalid code, a bad section behind", mod.loaded(), -1);
        mod = new Support.Mod();
        mod.type(0x60, 17, Support.many(17, 0x7f), 0);
        mod.fn(0, 0x43);
        due("a row too long, then refused", mod.loaded(), -3);
    }

    private static void afterAnError() {
        Support.House house = Support.one(NOTHING, Support.of(0x7f), 0x41, 7).house();
        due("a call", house.call('a', 5), 0);
        due("results", house.x.look(5), 1);
        house.x.give(5);
        house.feed(Support.HEAD);
        house.x.feed(1, 1);
        due("an error", house.x.load(), -1);
        for (int what = 0; what <= 10; what++) {
            due("look " + what, house.x.look(what), what == 9 ? 1 : 0);
        }
        Support.dueText("result", Support.said(() -> house.x.result(0)), Support.NO_SUCH);
        due("no instance", house.call('a', 5), -1);
        house.feed(Support.HEAD);
        due("the next one", house.x.load(), 0);
        due("is there", house.x.look(0), 1);
        due("without functions", house.x.look(1), 0);
        due("and without the name", house.call('a', 5), -2);
    }
}

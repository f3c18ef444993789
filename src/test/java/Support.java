import java.util.ArrayList;
import java.util.List;
import java.util.NoSuchElementException;

/** What the tests share: a module put together from its parts, and calls that are held against what is due. */
final class Support {
    static final int I32 = 0x7f;
    static final int I64 = 0x7e;
    static final int ANY = 0x6d;
    static final int SMALL = 0x6c;
    static final int OR_NULL = 0x63;
    static final int NOT_NULL = 0x64;

    private static int wrong = 0;
    private static int seen = 0;

    private Support() {
    }

    static void due(String what, long got, long want) {
        seen++;
        if (got != want) {
            wrong++;
            System.out.println(what + " answered " + got + ", due is " + want);
        }
    }

    /** The name of what a call throws, or its answer as a text. */
    static void dueText(String what, String got, String want) {
        seen++;
        if (!got.equals(want)) {
            wrong++;
            System.out.println(what + " answered " + got + ", due is " + want);
        }
    }

    static void end() {
        System.out.println(seen + " answers looked at, " + wrong + " not as due");
        if (wrong != 0 || seen == 0) {
            System.exit(1);
        }
    }

    interface Call {
        long answer();
    }

    static String said(Call call) {
        try {
            return Long.toString(call.answer());
        } catch (IllegalArgumentException | IllegalStateException | NoSuchElementException e) {
            return e.getClass().getSimpleName();
        }
    }

    static final String ARGUMENT = "IllegalArgumentException";
    static final String STATE = "IllegalStateException";
    static final String NO_SUCH = "NoSuchElementException";

    /** Bytes from numbers and rows of them. */
    static int[] b(Object... parts) {
        List<Integer> all = new ArrayList<>();
        for (Object part : parts) {
            if (part instanceof int[] row) {
                for (int n : row) {
                    all.add(n);
                }
            } else if (part instanceof Character letter) {
                all.add((int) letter);
            } else {
                all.add((Integer) part);
            }
        }
        int[] out = new int[all.size()];
        for (int k = 0; k < out.length; k++) {
            out[k] = all.get(k);
        }
        return out;
    }

    static int[] u(long n) {
        int[] out = new int[0];
        while (n >= 0x80) {
            out = b(out, (int) (n & 0x7f) | 0x80);
            n >>>= 7;
        }
        return b(out, (int) n);
    }

    static int[] s(long n) {
        int[] out = new int[0];
        while (n < -64 || n > 63) {
            out = b(out, (int) (n & 0x7f) | 0x80);
            n >>= 7;
        }
        return b(out, (int) (n & 0x7f));
    }

    static int[] i32(long n) {
        return b(0x41, s(n));
    }

    static int[] i64(long n) {
        return b(0x42, s(n));
    }

    static int[] many(int times, Object... parts) {
        int[] once = b(parts);
        int[] out = new int[once.length * times];
        for (int k = 0; k < out.length; k++) {
            out[k] = once[k % once.length];
        }
        return out;
    }

    static int[] row(List<int[]> items) {
        int[] out = u(items.size());
        for (int[] item : items) {
            out = b(out, item);
        }
        return out;
    }

    static int[] row(int[]... items) {
        return row(List.of(items));
    }

    static int[] section(int number, Object... parts) {
        int[] content = b(parts);
        return b(number, u(content.length), content);
    }

    static final int[] HEAD = {0x00, 0x61, 0x73, 0x6d, 0x01, 0x00, 0x00, 0x00};

    /** A module; functions are exported as a, b, c .. if they are made with fn. */
    static final class Mod {
        final List<int[]> types = new ArrayList<>();
        final List<int[]> functions = new ArrayList<>();
        final List<int[]> tables = new ArrayList<>();
        final List<int[]> memories = new ArrayList<>();
        final List<int[]> globals = new ArrayList<>();
        final List<int[]> exports = new ArrayList<>();
        final List<int[]> elements = new ArrayList<>();
        final List<int[]> bodies = new ArrayList<>();
        final List<int[]> data = new ArrayList<>();
        int[] start = null;
        int[] last = new int[0];

        int type(Object... parts) {
            types.add(b(parts));
            return types.size() - 1;
        }

        /** Each parameter, and each result, is one row of bytes. */
        int signature(List<int[]> parameters, List<int[]> results) {
            return type(0x60, row(parameters), row(results));
        }

        int fn(int type, Object... code) {
            return fnWith(type, b(0), code);
        }

        /** A function with a row of locals. */
        int fnWith(int type, int[] locals, Object... code) {
            functions.add(u(type));
            int[] body = b(locals, b(code), 0x0b);
            bodies.add(b(u(body.length), body));
            export('a' + functions.size() - 1, 0, functions.size() - 1);
            return functions.size() - 1;
        }

        Mod export(int letter, int kind, int number) {
            exports.add(b(1, letter, kind, u(number)));
            return this;
        }

        int global(int[] type, int canBeSet, Object... value) {
            globals.add(b(type, canBeSet, b(value), 0x0b));
            return globals.size() - 1;
        }

        Mod memory(Object... limits) {
            memories.add(b(limits));
            return this;
        }

        Mod table(Object... limits) {
            tables.add(b(0x70, b(limits)));
            return this;
        }

        Mod element(long place, int... numbers) {
            int[] all = u(numbers.length);
            for (int n : numbers) {
                all = b(all, u(n));
            }
            elements.add(b(0, i32(place), 0x0b, all));
            return this;
        }

        Mod data(long place, int... bytes) {
            data.add(b(0, i32(place), 0x0b, u(bytes.length), bytes));
            return this;
        }

        int[] build() {
            int[] out = HEAD;
            out = with(out, 1, types);
            out = with(out, 3, functions);
            out = with(out, 4, tables);
            out = with(out, 5, memories);
            out = with(out, 6, globals);
            out = with(out, 7, exports);
            out = start == null ? out : b(out, section(8, start));
            out = with(out, 9, elements);
            out = with(out, 10, bodies);
            return b(with(out, 11, data), last);
        }

        private static int[] with(int[] out, int number, List<int[]> items) {
            return items.isEmpty() ? out : b(out, section(number, row(items)));
        }

        House house() {
            return new House(build());
        }

        int loaded() {
            return house().loaded;
        }
    }

    static int loaded(Object... parts) {
        return new House(b(parts)).loaded;
    }

    /** A module with one function from some parameters to some results (a byte each), in a memory and a table. */
    static Mod one(int[] parameters, int[] results, Object... code) {
        return oneWith(new Mod(), parameters, results, code);
    }

    static Mod oneWith(Mod mod, int[] parameters, int[] results, Object... code) {
        int type = mod.type(0x60, u(parameters.length), parameters, u(results.length), results);
        mod.fn(type, code);
        return mod;
    }

    static void feedTo(ModuleHouse x, int[] bytes) {
        for (int k = 0; k < bytes.length; k += 8) {
            int n = Math.min(8, bytes.length - k);
            long v = 0;
            for (int m = 0; m < n; m++) {
                v |= (long) (bytes[k + m] & 0xff) << (8 * m);
            }
            x.feed(n, v);
        }
    }

    /* An object is used for at most 512 calls. */
    static final int CALLS = 512;
    private static ModuleHouse used = new ModuleHouse();
    private static int usedCalls = 0;

    /* What was loaded before must not show: one object takes module behind module. */
    private static int loadedByUsed(int[] bytes) {
        usedCalls += (bytes.length + 7) / 8 + 1;
        if (usedCalls > CALLS) {
            used = new ModuleHouse();
            usedCalls = (bytes.length + 7) / 8 + 1;
        }
        feedTo(used, bytes);
        return used.load();
    }

    static final class House {
        final ModuleHouse x = new ModuleHouse();
        final int loaded;

        House(int[] bytes) {
            feed(bytes);
            loaded = x.load();
            due("a load behind others", loadedByUsed(bytes), loaded);
        }

        void feed(int[] bytes) {
            feedTo(x, bytes);
        }

        int call(int letter, int turns, long... arguments) {
            for (long argument : arguments) {
                x.give(argument);
            }
            x.feed(1, letter);
            return x.call(turns);
        }

        /** The first result of function a, with 100 turns; a trap is told as 1000000 and its number. */
        long value(long... arguments) {
            int trap = call('a', 100, arguments);
            return trap == 0 ? x.result(0) : 1000000 + trap;
        }
    }

    static final long TRAPPED = 1000000;

    static int[] of(int... numbers) {
        return numbers;
    }
}

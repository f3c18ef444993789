import java.util.Arrays;
import java.util.Random;

/**
 * Runs of 512 calls of all kinds on one object, held against a model of what the face promises.
 * The modules are written here, so the model knows what each function of them does.
 */
public final class LongRunTest {
    private static final int RUNS = 400;

    /* Modules, by number; those from MALFORMED on are errors. */
    private static final int FULL = 0;
    private static final int STARTED = 1;
    private static final int TRAPPED = 2;
    private static final int MISFIT = 3;
    private static final int BARE = 4;
    private static final int MALFORMED = 5;
    private static final int[] ANSWERS = {0, 0, 1, 5, 0, -1, -2, -3};

    private static final int PAGE = 4096;
    private static final int ROOM = 2000;

    private static final int[][] MODULES = {full(), started(false), started(true), misfit(), Support.HEAD,
        Support.b(Support.HEAD, 2, 0), Support.b(Support.HEAD, 8, 1, 0),
        Support.one(Support.of(), Support.of(), 0x43).build()};

    public static void main(String[] args) {
        for (int run = 0; run < RUNS; run++) {
            new LongRunTest(run).run();
        }
        Support.end();
    }

    /** Functions a .. j; "hello" is j, too; m a memory, t a table, v, w, x globals. */
    private static int[] full() {
        Support.Mod mod = new Support.Mod();
        int node = mod.type(0x5f, 2, Support.I32, 1, Support.OR_NULL, 0, 1);
        int none = mod.type(0x60, 0, 0);
        int turned = mod.type(0x60, 2, Support.I32, Support.I64, 2, Support.I64, Support.I32);
        int one = mod.type(0x60, 1, Support.I32, 1, Support.I32);
        int taken = mod.type(0x60, 1, Support.I32, 0);
        int refers = mod.type(0x60, 1, Support.ANY, 0);
        int referred = mod.type(0x60, 0, 1, Support.ANY);
        mod.global(Support.of(Support.I32), 1, Support.i32(-5));
        mod.global(Support.of(Support.I64), 0, Support.i64(1L << 40));
        mod.global(Support.of(Support.OR_NULL, node), 1, 0xd0, node);
        mod.memory(1, 1, 3).table(0, 4);
        mod.fn(turned, 0x20, 1, 0x20, 0);
        mod.fn(one, 0x23, 0, 0x20, 0, 0x6a, 0x24, 0, 0x23, 0);
        mod.fn(taken, 0x03, 0x40, 0x20, 0, 0x04, 0x40, 0x20, 0, 0x23, 2, 0xfb, 0, node, 0x24, 2,
                0x20, 0, Support.i32(1), 0x6b, 0x22, 0, 0x0d, 1, 0x0b, 0x0b);
        mod.fn(none, 0xd0, node, 0x24, 2);
        mod.fn(one, 0x20, 0, 0x20, 0, Support.i32(7), 0x6a, 0x3a, 0, 0, 0x20, 0, 0x2d, 0, 0);
        mod.fn(one, 0x20, 0, 0x40, 0);
        mod.fn(refers);
        mod.fn(referred, 0x23, 2);
        mod.fn(one, 0x20, 0, 0x45, 0x04, Support.I32, Support.i32(0), 0x05,
                0x20, 0, Support.i32(1), 0x6b, 0x10, 8, Support.i32(1), 0x6a, 0x0b);
        mod.fn(taken, 0x20, 0, 0x11, none, 0);
        mod.element(0, 3, 1).element(3, 3);
        mod.exports.add(Support.b(5, 'h', 'e', 'l', 'l', 'o', 0, 9));
        mod.export('m', 2, 0).export('t', 1, 0).export('v', 3, 0).export('w', 3, 1).export('x', 3, 2);
        return mod.build();
    }

    /** The function of 8 spends two turns and sets global v (export 1); a tells it. */
    private static int[] started(boolean traps) {
        Support.Mod mod = new Support.Mod();
        int none = mod.type(0x60, 0, 0);
        mod.global(Support.of(Support.I32), 1, Support.i32(0));
        mod.memory(0, 2).data(PAGE * 2 - 2, 0xfe, 0xff);
        mod.fn(mod.type(0x60, 0, 1, Support.I32), 0x23, 0);
        mod.functions.add(Support.b(none));
        int[] body = Support.b(0, 0x10, 0, 0x1a, Support.i32(77), 0x24, 0, traps ? 0x00 : 0x01, 0x0b);
        mod.bodies.add(Support.b(body.length, body));
        mod.start = Support.b(1);
        mod.export('v', 3, 0);
        return mod.build();
    }

    /** Elements that don't fit: the data and the function of 8 do not come. */
    private static int[] misfit() {
        Support.Mod mod = new Support.Mod();
        mod.memory(0, 1).table(0, 1).data(0, 9);
        mod.fn(mod.type(0x60, 0, 0));
        mod.element(1, 0);
        mod.start = Support.b(0);
        return mod.build();
    }

    private final String where;
    private final Random random;
    private final ModuleHouse x = new ModuleHouse();
    private int calls = 0;

    /* The model: which module the instance is of (-1 none), and all that the face can show of it. */
    private int[] tape = new int[0];
    private final long[] given = new long[16];
    private int givenCount = 0;
    private int module = -1;
    private long[] results = new long[0];
    private int turnsLeft = 0;
    private int number = 0;
    private int nodes = 0;
    private int pages = 0;
    private final int[] memory = new int[3 * PAGE];

    private LongRunTest(int run) {
        where = "run " + run + ", call ";
        random = new Random(run);
    }

    private void run() {
        if (random.nextInt(8) != 0) {
            loadModule(FULL);
        }
        while (calls < Support.CALLS) {
            int which = random.nextInt(100);
            if (which < 3) {
                loadModule(random.nextInt(3) == 0 ? FULL : random.nextInt(MODULES.length));
            } else if (which < 45) {
                callSomething();
            } else {
                small(random.nextInt(40) == 0 ? 7 : random.nextInt(7));
            }
        }
    }

    private void due(String what, long got, long want) {
        calls++;
        Support.due(where + calls + ", " + what, got, want);
    }

    private void dueText(String what, Support.Call call, String want) {
        calls++;
        Support.dueText(where + calls + ", " + what, Support.said(call), want);
    }

    private void feed(int[] bytes) {
        for (int from = 0; from < bytes.length && calls < Support.CALLS; ) {
            int n = Math.min(bytes.length - from, 8 - random.nextInt(20) / 19);
            long v = random.nextLong();
            for (int k = 0; k < n; k++) {
                v = v & ~(0xffL << 8 * k) | (long) bytes[from + k] << 8 * k;
            }
            from += n;
            tape = Support.b(tape, Arrays.copyOfRange(bytes, from - n, from));
            due("feed", x.feed(n, v), tape.length);
            if (calls < Support.CALLS && random.nextInt(30) == 0) {
                small(random.nextInt(7));
            }
        }
    }

    /* A tape with something on it already is loaded first, as the mess that it is: it is malformed. */
    private void loadModule(int which) {
        if (tape.length > 0) {
            load(-1);
        }
        feed(MODULES[which]);
        if (calls < Support.CALLS) {
            load(which);
        }
    }

    private void load(int which) {
        tape = new int[0];
        results = new long[0];
        turnsLeft = which == STARTED || which == TRAPPED ? 998 : 0;
        module = which >= MALFORMED ? -1 : which;
        number = which == FULL ? -5 : 77;
        nodes = 0;
        pages = which == FULL || which == MISFIT ? 1 : which == STARTED || which == TRAPPED ? 2 : 0;
        Arrays.fill(memory, 0);
        if (pages == 2) {
            memory[2 * PAGE - 2] = 0xfe;
            memory[2 * PAGE - 1] = 0xff;
        }
        due("load " + which, x.load(), which < 0 ? -1 : ANSWERS[which]);
    }

    private void small(int which) {
        switch (which) {
            case 0 -> look(random.nextInt(11));
            case 1 -> wrong(random.nextInt(5));
            case 2 -> result(random.nextInt(4) - 1);
            case 3 -> global(random.nextInt(20) - 1);
            case 4 -> at(random.nextInt(3) == 0 ? random.nextInt() : PAGE * random.nextInt(4) - 2 + random.nextInt(4));
            case 5 -> look(5 + random.nextInt(3));
            case 6 -> give(random.nextLong() >> random.nextInt(64));
            default -> feed(Support.of(random.nextInt(256)));
        }
    }

    private void wrong(int which) {
        int bad = random.nextBoolean() ? -1 - random.nextInt(9) : 0x80000000;
        switch (which) {
            case 0 -> dueText("feed", () -> x.feed(bad, 1), Support.ARGUMENT);
            case 1 -> dueText("feed", () -> x.feed(9, 1), Support.ARGUMENT);
            case 2 -> dueText("call", () -> x.call(bad), Support.ARGUMENT);
            case 3 -> dueText("look", () -> x.look(bad), Support.ARGUMENT);
            default -> dueText("look", () -> x.look(11), Support.ARGUMENT);
        }
    }

    private void give(long v) {
        if (givenCount == 16) {
            dueText("give", () -> x.give(v), Support.STATE);
            return;
        }
        given[givenCount] = v;
        givenCount++;
        due("give", x.give(v), givenCount);
    }

    private void look(int what) {
        int[] functions = {10, 2, 2, 1, 0};
        int[] exports = {16, 2, 2, 1, 0};
        int[] types = {7, 2, 2, 1, 0};
        boolean there = module >= 0;
        int want = switch (what) {
            case 0 -> there ? 1 : 0;
            case 1 -> there ? functions[module] : 0;
            case 2 -> there ? exports[module] : 0;
            case 3 -> pages;
            case 4 -> module == FULL ? 4 : module == MISFIT ? 1 : 0;
            case 5 -> results.length;
            case 6 -> turnsLeft;
            case 7 -> 3 * nodes;
            case 8 -> tape.length;
            case 9 -> givenCount;
            default -> there ? types[module] : 0;
        };
        due("look " + what, x.look(what), want);
    }

    private void result(int k) {
        String want = k >= 0 && k < results.length ? Long.toString(results[k]) : Support.NO_SUCH;
        dueText("result " + k, () -> x.result(k), want);
    }

    private void global(int export) {
        String want = Support.NO_SUCH;
        if (module == FULL && export >= 13 && export <= 15) {
            want = Long.toString(export == 13 ? number : export == 14 ? 1L << 40 : nodes > 0 ? 1 : 0);
        } else if ((module == STARTED || module == TRAPPED) && export == 1) {
            want = Integer.toString(number);
        }
        dueText("global " + export, () -> x.global(export), want);
    }

    private void at(int address) {
        boolean there = address >= 0 && address < pages * PAGE;
        dueText("at " + address, () -> x.at(address), there ? Integer.toString(memory[address]) : Support.NO_SUCH);
    }

    /* Mostly with a good name and as many arguments as that function has. */
    private void callSomething() {
        int letter = "aabbccccddeeefffghhiijjjjmvz".charAt(random.nextInt(28));
        int parameters = module != FULL || "dhmvz".indexOf(letter) >= 0 ? 0 : letter == 'a' ? 2 : 1;
        int wanted = random.nextInt(12) == 0 ? random.nextInt(4) : parameters;
        for (int k = givenCount; k < wanted && calls < Support.CALLS; k++) {
            give(argument(letter));
        }
        boolean longName = letter == 'j' && random.nextBoolean();
        feed(longName ? Support.of('h', 'e', 'l', 'l', 'o') : Support.of(letter));
        if (calls < Support.CALLS) {
            call(random.nextInt(6) == 0 ? random.nextInt(4) : random.nextInt(random.nextBoolean() ? 100 : 1000));
        }
    }

    private long argument(int letter) {
        long high = (long) random.nextInt() << 32;
        return switch (letter) {
            case 'c' -> high | random.nextInt(500);
            case 'e' -> high | PAGE * random.nextInt(4) - 1 + random.nextInt(3) & 0xffffffffL;
            case 'f' -> high | random.nextInt(8) / 4 * random.nextInt(3);
            case 'i' -> high | random.nextInt(70);
            case 'j' -> high | random.nextInt(6) - 1 & 0xffffffffL;
            default -> random.nextLong();
        };
    }

    private void call(int turns) {
        int parameters = givenCount;
        String name = "";
        for (int letter : tape) {
            name = name + (char) letter;
        }
        tape = new int[0];
        givenCount = 0;
        results = new long[0];
        due("call of " + name + " with " + turns, x.call(turns), module < 0 ? -1 : answer(name, parameters, turns));
    }

    private int answer(String name, int parameters, int turns) {
        String names = module == FULL ? "abcdefghij" : module == BARE ? "" : "a";
        char letter = name.equals("hello") && module == FULL ? 'j' : name.length() == 1 ? name.charAt(0) : '-';
        if (names.indexOf(letter) < 0) {
            return -2;
        }
        boolean has = module == FULL && "dh".indexOf(letter) < 0;
        if (parameters != (has ? letter == 'a' ? 2 : 1 : 0) || module == FULL && letter == 'g') {
            return -3;
        }
        turnsLeft = Math.max(turns - 1, 0);
        if (turns == 0) {
            return 13;
        }
        if (module != FULL) {
            results = module == MISFIT ? results : new long[] {number};
            return 0;
        }
        return answerOfFull(letter, (int) given[0]);
    }

    private int answerOfFull(char letter, int a) {
        switch (letter) {
            case 'a' -> results = new long[] {given[1], a};
            case 'b' -> {
                number += a;
                results = new long[] {number};
            }
            case 'c' -> {
                return makeNodes(a);
            }
            case 'd' -> nodes = 0;
            case 'e' -> {
                if (a < 0 || a >= pages * PAGE) {
                    return 2;
                }
                memory[a] = a + 7 & 0xff;
                results = new long[] {memory[a]};
            }
            case 'f' -> {
                boolean grows = a >= 0 && a <= 3 - pages;
                results = new long[] {grows ? pages : -1};
                pages += grows ? a : 0;
            }
            case 'h' -> results = new long[] {nodes > 0 ? 1 : 0};
            case 'i' -> {
                return goDown(a);
            }
            default -> {
                return callByTable(a);
            }
        }
        return 0;
    }

    private int makeNodes(int a) {
        for (int left = a; left != 0; ) {
            if (3 * (nodes + 1) > ROOM) {
                return 11;
            }
            nodes++;
            left--;
            if (left != 0) {
                if (turnsLeft == 0) {
                    return 13;
                }
                turnsLeft--;
            }
        }
        return 0;
    }

    private int goDown(int a) {
        for (int depth = 1; depth != a + 1; depth++) {
            if (turnsLeft == 0) {
                return 13;
            }
            turnsLeft--;
            if (depth == 60) {
                return 12;
            }
        }
        results = new long[] {a};
        return 0;
    }

    private int callByTable(int a) {
        if (a < 0 || a > 3) {
            return 5;
        }
        if (a == 1 || a == 2) {
            return a == 1 ? 7 : 6;
        }
        if (turnsLeft == 0) {
            return 13;
        }
        turnsLeft--;
        nodes = 0;
        return 0;
    }
}

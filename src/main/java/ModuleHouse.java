import java.util.Arrays;
import java.util.NoSuchElementException;

/**
 * A house for modules of a stack language in bytes: a module is read and checked as a whole, and
 * then its functions can be called, with a measure of turns and of room.
 *
 * All rows are made once, with the object, and used again by every call.
 */
public final class ModuleHouse {
    private static final int TAPE = 8192;
    private static final int ARGUMENTS = 16;
    private static final int PARTS = 64;
    private static final int MEMBERS = 16;
    private static final int LOCALS_MOST = 200;
    private static final int VALUES_MOST = 100;
    private static final int BLOCKS_MOST = 100;
    private static final int CALLS_MOST = 60;
    private static final int ROOM = 2000;
    private static final int PAGE = 4096;
    private static final int PAGES_MOST = 16;
    private static final int FIRST_TURNS = 1000;
    private static final int NONE = -1;

    private static final int MALFORMED = -1;
    private static final int INVALID = -2;
    private static final int REFUSED = -3;

    private static final int NO_INSTANCE = -1;
    private static final int NO_FUNCTION = -2;
    private static final int OTHER_PARAMETERS = -3;

    private static final int TRAP_TOLD = 1;
    private static final int TRAP_MEMORY = 2;
    private static final int TRAP_BY_ZERO = 3;
    private static final int TRAP_BEYOND = 4;
    private static final int TRAP_TABLE = 5;
    private static final int TRAP_NOTHING_THERE = 6;
    private static final int TRAP_OTHER_TYPE = 7;
    private static final int TRAP_NULL = 8;
    private static final int TRAP_CAST = 9;
    private static final int TRAP_ELEMENT = 10;
    private static final int TRAP_ROOM = 11;
    private static final int TRAP_DEPTH = 12;
    private static final int TRAP_TURNS = 13;

    /* What an export can be. */
    private static final int EXPORTED_FUNCTION = 0;
    private static final int EXPORTED_TABLE = 1;
    private static final int EXPORTED_MEMORY = 2;
    private static final int EXPORTED_GLOBAL = 3;

    /* Instructions that are asked for by name in more than one place. */
    private static final int TRAP = 0x00;
    private static final int BLOCK = 0x02;
    private static final int LOOP = 0x03;
    private static final int IF = 0x04;
    private static final int ELSE = 0x05;
    private static final int END = 0x0b;
    private static final int BRANCH = 0x0c;
    private static final int BRANCH_IF = 0x0d;
    private static final int BRANCH_BY_ROW = 0x0e;
    private static final int RETURN = 0x0f;
    private static final int CALL = 0x10;
    private static final int CALL_BY_TABLE = 0x11;
    private static final int DROP = 0x1a;
    private static final int CHOOSE = 0x1b;
    private static final int GET_LOCAL = 0x20;
    private static final int SET_LOCAL = 0x21;
    private static final int KEEP_LOCAL = 0x22;
    private static final int GET_GLOBAL = 0x23;
    private static final int COUNT_PAGES = 0x3f;
    private static final int GROW = 0x40;
    private static final int I32_VALUE = 0x41;
    private static final int I64_VALUE = 0x42;
    private static final int NULL_VALUE = 0xd0;
    private static final int IS_NULL = 0xd1;
    private static final int SAME_REFERENCE = 0xd3;
    private static final int NOT_NULL = 0xd4;
    private static final int BRANCH_ON_NULL = 0xd5;
    private static final int OBJECT_PREFIX = 0xfb;

    /*
     * The reader's own instructions have numbers that no tape can bring: a function's body begins
     * with BODY (the outermost block), LOCALS for each group of locals, and ends with BODY_END.
     */
    private static final int BODY = 0x06;
    private static final int BODY_END = 0x07;
    private static final int LOCALS = 0x08;

    /* Instructions behind the prefix for objects are numbered from here on. */
    private static final int OBJECT = 256;
    private static final int OBJECT_LAST = 30;
    private static final int FIRST_OF_ARRAY = 6;
    private static final int FIRST_OF_KIND = 20;

    /* Block types: 0 for nothing, a value type's code, or from here on the number of a type. */
    private static final int BLOCK_OF_TYPE = 1024;

    private final byte[] tape = new byte[TAPE];
    private final long[] arguments = new long[ARGUMENTS];
    private final long[] results = new long[MEMBERS];
    private final ReadModule module = new ReadModule();
    private final Reader reader = new Reader(module);
    private final Checker checker = new Checker(module);
    private final Machine machine = new Machine(module);
    private int tapeLength;
    private int argumentCount;
    private int resultCount;
    private int turnsLeft;
    private boolean there;

    /** A house without an instance. */
    public ModuleHouse() {
        there = false;
    }

    /** The n lowest bytes of v, lowest first, come behind the tape: how many it has. */
    public int feed(int n, long v) throws IllegalArgumentException, IllegalStateException {
        if (n < 1 || n > 8) {
            throw new IllegalArgumentException();
        }
        if (tapeLength + n > TAPE) {
            throw new IllegalStateException();
        }
        for (int k = 0; k < n; k++) {
            tape[tapeLength + k] = (byte) (v >>> (8 * k));
        }
        tapeLength += n;
        return tapeLength;
    }

    /** The tape as a module: an error below 0, or 0, or the trap as it came to be. */
    public int load() {
        int length = tapeLength;
        tapeLength = 0;
        resultCount = 0;
        turnsLeft = 0;
        there = false;
        module.clear();
        machine.clear();
        try {
            reader.readModule(tape, length);
        } catch (IllegalArgumentException e) {
            return MALFORMED;
        } catch (UnsupportedOperationException e) {
            return REFUSED;
        }
        try {
            checker.checkParts();
            for (int function = 0; function < module.functions.count; function++) {
                checker.checkBody(function);
            }
        } catch (IllegalArgumentException e) {
            return INVALID;
        }
        there = true;
        int trap = machine.begin();
        if (trap == 0 && module.starter != NONE) {
            trap = machine.run(module.starter, FIRST_TURNS);
            turnsLeft = machine.turns;
        }
        machine.values.top = 0;
        return trap;
    }

    /** An argument for the next call: how many there are. */
    public int give(long v) throws IllegalStateException {
        if (argumentCount == ARGUMENTS) {
            throw new IllegalStateException();
        }
        arguments[argumentCount] = v;
        argumentCount++;
        return argumentCount;
    }

    /** The function whose name the tape is, with so many turns: 0, a trap, or why there is no call. */
    public int call(int turns) throws IllegalArgumentException {
        if (turns < 0) {
            throw new IllegalArgumentException();
        }
        int length = tapeLength;
        int given = argumentCount;
        tapeLength = 0;
        argumentCount = 0;
        resultCount = 0;
        if (!there) {
            return NO_INSTANCE;
        }
        int function = functionNamed(length);
        if (function == NONE) {
            return NO_FUNCTION;
        }
        int type = module.functions.kind[function];
        if (!takes(type, given)) {
            return OTHER_PARAMETERS;
        }
        layArguments(type, given);
        int trap = machine.run(function, turns);
        turnsLeft = machine.turns;
        if (trap == 0) {
            keepResults(type);
        }
        machine.values.top = 0;
        return trap;
    }

    private int functionNamed(int length) {
        Row exports = module.exports;
        for (int k = 0; k < exports.count; k++) {
            if (exports.second[k] == length && sameName(exports.first[k], length)) {
                return exports.kind[k] == EXPORTED_FUNCTION ? (int) exports.number[k] : NONE;
            }
        }
        return NONE;
    }

    private boolean sameName(int from, int length) {
        for (int k = 0; k < length; k++) {
            if (module.bytes[from + k] != tape[k]) {
                return false;
            }
        }
        return true;
    }

    private boolean takes(int type, int given) {
        if (module.types.members[type] != given) {
            return false;
        }
        for (int k = 0; k < given; k++) {
            if (Types.isReference(module.types.member(type, k))) {
                return false;
            }
        }
        return true;
    }

    private void layArguments(int type, int given) {
        for (int k = 0; k < given; k++) {
            boolean narrow = module.types.member(type, k) == Types.I32;
            machine.values.push(narrow ? (int) arguments[k] : arguments[k]);
        }
    }

    private void keepResults(int type) {
        resultCount = module.types.results[type];
        for (int k = 0; k < resultCount; k++) {
            results[k] = shown(machine.values, k);
        }
    }

    private static long shown(Values row, int k) {
        if (!row.refers[k]) {
            return row.value[k];
        }
        return row.value[k] == 0 ? 0 : 1;
    }

    /** Result k of the latest call, if that answered 0. */
    public long result(int k) throws NoSuchElementException {
        if (k < 0 || k >= resultCount) {
            throw new NoSuchElementException();
        }
        return results[k];
    }

    /** The value of the global that is the export of this number. */
    public long global(int export) throws NoSuchElementException {
        if (!there || export < 0 || export >= module.exports.count
                || module.exports.kind[export] != EXPORTED_GLOBAL) {
            throw new NoSuchElementException();
        }
        return shown(machine.globals, (int) module.exports.number[export]);
    }

    /** A byte of the memory. */
    public int at(int address) throws NoSuchElementException {
        if (!there || address < 0 || !machine.memory.holds(address, 1)) {
            throw new NoSuchElementException();
        }
        return (int) machine.memory.taken(address, 1);
    }

    /** What there is: see the document for the numbers. */
    public int look(int what) throws IllegalArgumentException {
        if (what < 0 || what > 10) {
            throw new IllegalArgumentException();
        }
        if (what == 8) {
            return tapeLength;
        }
        if (what == 9) {
            return argumentCount;
        }
        if (!there) {
            return 0;
        }
        return switch (what) {
            case 0 -> 1;
            case 1 -> module.functions.count;
            case 2 -> module.exports.count;
            case 3 -> machine.memory.pages;
            case 4 -> module.tablePlaces();
            case 5 -> resultCount;
            case 6 -> turnsLeft;
            case 7 -> machine.heap.collect(machine.values, machine.globals);
            default -> module.types.count;
        };
    }

    /**
     * The types of a module. A value type is told by a code: one of the numbers' codes, or
     * REFERENCE + 2 * target, and 1 more if it may be null; a target from FIRST on is a type's
     * number behind FIRST. Rows have one place more than they may have members, so that what is
     * too long can be read all the same.
     */
    private static final class Types {
        static final int UNKNOWN = 0;
        static final int I32 = 1;
        static final int I64 = 2;
        static final int BITS8 = 3;
        static final int BITS16 = 4;
        static final int REFERENCE = 16;

        static final int ANYTHING = 0;
        static final int SMALL = 1;
        static final int UNTOLD = 2;
        static final int FIRST = 3;

        static final int FUNCTION = 0x60;
        static final int STRUCTURE = 0x5f;
        static final int ARRAY = 0x5e;

        private static final int SIDE = MEMBERS + 1;

        int count;
        final int[] kind = new int[PARTS + 1];
        final int[] members = new int[PARTS + 1];
        final int[] results = new int[PARTS + 1];
        final int[] like = new int[PARTS + 1];
        private final int[] part = new int[2 * SIDE * (PARTS + 1)];

        static int reference(int target, boolean orNull) {
            return REFERENCE + 2 * target + (orNull ? 1 : 0);
        }

        static boolean isReference(int code) {
            return code >= REFERENCE;
        }

        static boolean orNull(int code) {
            return isReference(code) && (code & 1) == 1;
        }

        static int target(int code) {
            return (code - REFERENCE) >> 1;
        }

        static boolean hasDefault(int code) {
            return !isReference(code) || orNull(code);
        }

        static int notNull(int code) {
            return code & ~1;
        }

        static boolean isPacked(int code) {
            return code == BITS8 || code == BITS16;
        }

        static int unpacked(int code) {
            return isPacked(code) ? I32 : code;
        }

        /* A parameter, a field, or an array's element (member 0). */
        int member(int type, int k) {
            return part[2 * SIDE * type + k];
        }

        int outcome(int type, int k) {
            return part[2 * SIDE * type + SIDE + k];
        }

        boolean canBeSet(int type, int k) {
            return outcome(type, k) == 1;
        }

        void setMember(int type, int k, int code) {
            part[2 * SIDE * type + Math.min(k, MEMBERS)] = code;
        }

        /* Structures and arrays have no results: there, 1 stands for a field that can be set. */
        void setOutcome(int type, int k, int code) {
            part[2 * SIDE * type + SIDE + Math.min(k, MEMBERS)] = code;
        }

        boolean is(int type, int wanted) {
            return type < count && kind[type] == wanted;
        }

        boolean knowsTarget(int target) {
            return target < FIRST || target - FIRST < count && kind[target - FIRST] != FUNCTION;
        }

        boolean knows(int code) {
            return !isReference(code) || knowsTarget(target(code));
        }

        /* Gives each type the number of the first one that is the same. */
        void group() {
            for (int type = 0; type < count; type++) {
                like[type] = type;
                for (int other = 0; other < type; other++) {
                    if (like[other] == other && alike(type, other)) {
                        like[type] = other;
                        break;
                    }
                }
            }
        }

        private boolean alike(int type, int other) {
            if (kind[type] != kind[other] || members[type] != members[other] || results[type] != results[other]) {
                return false;
            }
            int from = 2 * SIDE * type;
            int otherFrom = 2 * SIDE * other;
            int sides = kind[type] == FUNCTION ? results[type] : members[type];
            for (int k = 0; k < members[type]; k++) {
                if (!alikeWithin(part[from + k], type, part[otherFrom + k], other)) {
                    return false;
                }
            }
            for (int k = SIDE; k < SIDE + sides; k++) {
                if (!alikeWithin(part[from + k], type, part[otherFrom + k], other)) {
                    return false;
                }
            }
            return true;
        }

        private boolean alikeWithin(int code, int type, int otherCode, int other) {
            if (!isReference(code) || !isReference(otherCode) || target(code) < FIRST || target(otherCode) < FIRST) {
                return code == otherCode;
            }
            int number = target(code) - FIRST;
            int otherNumber = target(otherCode) - FIRST;
            if (orNull(code) != orNull(otherCode) || (number == type) != (otherNumber == other)) {
                return false;
            }
            return number == type || like[number] == like[otherNumber];
        }

        boolean same(int code, int other) {
            return fits(code, other) && fits(other, code);
        }

        /* Whether a value of the first type can stand where the second one is asked for. */
        boolean fits(int code, int wanted) {
            if (code == wanted || code == UNKNOWN) {
                return true;
            }
            if (code < REFERENCE || wanted < REFERENCE || (code & 1) > (wanted & 1)) {
                return false;
            }
            int target = (code - REFERENCE) >> 1;
            int wantedTarget = (wanted - REFERENCE) >> 1;
            if (target == wantedTarget || wantedTarget == ANYTHING || target == UNTOLD) {
                return true;
            }
            return target >= FIRST && wantedTarget >= FIRST && like[target - FIRST] == like[wantedTarget - FIRST];
        }
    }

    /**
     * A row of a module's parts, with a spare place at its end for what is read beyond the bound.
     * Functions: kind its type, first where its code begins, second how many locals. Tables and
     * memories: first the least, second the most. Globals: kind its type, first whether it can be
     * set, second the type of its first value, number that value. Exports: kind, first and second
     * where its name lies and how long it is, number. Elements and data: number the place, first
     * and second where they lie and how many.
     */
    private static final class Row {
        int count;
        final int[] kind = new int[PARTS + 1];
        final int[] first = new int[PARTS + 1];
        final int[] second = new int[PARTS + 1];
        final long[] number = new long[PARTS + 1];
    }

    /** A module as it was read. */
    private static final class ReadModule {
        final byte[] bytes = new byte[TAPE];
        final Types types = new Types();
        final Code code = new Code();
        final Row functions = new Row();
        final Row tables = new Row();
        final Row memories = new Row();
        final Row globals = new Row();
        final Row exports = new Row();
        final Row elements = new Row();
        final Row data = new Row();
        int bodies;
        int starter;

        void clear() {
            types.count = 0;
            code.size = 0;
            code.numbersSize = 0;
            functions.count = 0;
            tables.count = 0;
            memories.count = 0;
            globals.count = 0;
            exports.count = 0;
            elements.count = 0;
            data.count = 0;
            bodies = 0;
            starter = NONE;
        }

        int tablePlaces() {
            return tables.count == 0 ? 0 : tables.first[0];
        }
    }

    /**
     * The instructions of all bodies, one behind the other. Of a block's first instruction, first
     * is its block type, mate the ELSE or END that belongs to it (an ELSE's mate is the END), and
     * the checker notes in second how many values a way to it takes, and in height how many lie
     * below its own part of the stack. Of a branch, the checker notes in mate the block's first
     * instruction. Until a block is closed its mate is the block around it.
     */
    private static final class Code {
        int size;
        int numbersSize;
        final short[] op = new short[TAPE];
        final int[] first = new int[TAPE];
        final long[] second = new long[TAPE];
        final int[] mate = new int[TAPE];
        final int[] height = new int[TAPE];
        /* Rows of numbers: ways of 0x0e, functions of elements. */
        final int[] numbers = new int[TAPE];

        /* Nothing is added that does not take a byte of the tape, so there is always a place. */
        void add(int added, int firstOf, long secondOf) {
            if (size < TAPE) {
                op[size] = (short) added;
                first[size] = firstOf;
                second[size] = secondOf;
                size++;
            }
        }

        void addNumber(int number) {
            if (numbersSize < TAPE) {
                numbers[numbersSize] = number;
                numbersSize++;
            }
        }

        /* Each of these three tells the innermost open block behind the latest instruction. */
        int opened(int open) {
            mate[size - 1] = open;
            return size - 1;
        }

        int turned(int open) {
            mate[size - 1] = mate[open];
            mate[open] = size - 1;
            return size - 1;
        }

        int closed(int open) {
            int around = mate[open];
            mate[open] = size - 1;
            return around;
        }

        int endOf(int block) {
            int end = mate[block];
            return op[end] == ELSE ? mate[end] : end;
        }
    }

    /**
     * Takes a module apart. What can't be read ends it: IllegalArgumentException says malformed,
     * UnsupportedOperationException refused. Numbers too great for anything are cut to an int.
     */
    private static final class Reader {
        private static final int[] HEAD = {0x00, 0x61, 0x73, 0x6d, 0x01, 0x00, 0x00, 0x00};

        /*
         * What follows an instruction: . nothing, b block type, e and n (else and end), u one U,
         * w two, r row of U and U, z a byte 0, i S32, l S64, t target; - refused, ! malformed.
         * The last two lines are those behind the prefix for objects.
         */
        private static final char[] SHAPE = {
            '.', '.', 'b', 'b', 'b', 'e', '!', '!', '!', '!', '!', 'n', 'u', 'u', 'r', '.',
            'u', 'w', '!', '!', '!', '!', '!', '!', '!', '!', '.', '.', '-', '-', '!', '!',
            'u', 'u', 'u', 'u', 'u', '-', '-', '!', 'w', 'w', '-', '-', 'w', 'w', 'w', 'w',
            'w', 'w', 'w', 'w', 'w', 'w', 'w', 'w', '-', '-', 'w', 'w', 'w', 'w', 'w', 'z',
            'z', 'i', 'l', '-', '-', '.', '.', '.', '.', '.', '.', '.', '.', '.', '.', '.',
            '.', '.', '.', '.', '.', '.', '.', '.', '.', '.', '.', '-', '-', '-', '-', '-',
            '-', '-', '-', '-', '-', '-', '-', '.', '.', '.', '.', '.', '.', '.', '.', '.',
            '.', '.', '.', '.', '.', '.', '.', '.', '.', '.', '.', '.', '.', '.', '.', '.',
            '.', '.', '.', '.', '.', '.', '.', '.', '.', '.', '.', '-', '-', '-', '-', '-',
            '-', '-', '-', '-', '-', '-', '-', '-', '-', '-', '-', '-', '-', '-', '-', '-',
            '-', '-', '-', '-', '-', '-', '-', '.', '-', '-', '-', '-', '.', '.', '-', '-',
            '-', '-', '-', '-', '-', '-', '-', '-', '-', '-', '-', '-', '-', '-', '-', '-',
            '.', '.', '.', '.', '.', '!', '!', '!', '!', '!', '!', '!', '!', '!', '!', '!',
            't', '.', '-', '.', '.', 'u', 'u', '!', '!', '!', '!', '!', '!', '!', '!', '!',
            '!', '!', '!', '!', '!', '!', '!', '!', '!', '!', '!', '!', '!', '!', '!', '!',
            '!', '!', '!', '!', '!', '!', '!', '!', '!', '!', '!', '!', '-', '-', '!', '!',
            'u', 'u', 'w', 'w', 'w', 'w', 'u', 'u', 'w', '-', '-', 'u', 'u', 'u', 'u', '.',
            'u', '-', '-', '-', 't', 't', 't', 't', '-', '-', '-', '-', '.', '.', '.'
        };

        private final byte[] bytes;
        private final ReadModule module;
        private final Types types;
        private final Code code;
        private int next;
        private int end;

        Reader(ReadModule module) {
            this.module = module;
            this.bytes = module.bytes;
            this.types = module.types;
            this.code = module.code;
        }

        void readModule(byte[] tape, int length) {
            System.arraycopy(tape, 0, bytes, 0, length);
            next = 0;
            end = length;
            for (int k = 0; k < HEAD.length; k++) {
                if (readByte() != HEAD[k]) {
                    throw new IllegalArgumentException();
                }
            }
            int last = 0;
            for (int k = 0; k < TAPE && next < length; k++) {
                int number = readByte();
                if (number != 0 && (number <= last || number == 2 || number > 11)) {
                    throw new IllegalArgumentException();
                }
                int size = readSize(length);
                end = next + size;
                switch (number) {
                    case 0 -> next = end;
                    case 1 -> readTypes();
                    case 3 -> readFunctions();
                    case 4 -> readTables();
                    case 5 -> readMemories();
                    case 6 -> readGlobals();
                    case 7 -> readExports();
                    case 8 -> module.starter = readNumber();
                    case 9 -> readElements();
                    case 10 -> readCode();
                    default -> readData();
                }
                if (next != end) {
                    throw new IllegalArgumentException();
                }
                last = Math.max(last, number);
                end = length;
            }
        }

        private int readByte() {
            if (next >= end) {
                throw new IllegalArgumentException();
            }
            next++;
            return bytes[next - 1] & 0xff;
        }

        private int peekByte() {
            if (next >= end) {
                throw new IllegalArgumentException();
            }
            return bytes[next] & 0xff;
        }

        private long readUnsigned() {
            long value = 0;
            for (int shift = 0; shift < 35 && next < end; shift += 7) {
                int group = bytes[next] & 0xff;
                next++;
                value |= (long) (group & 0x7f) << shift;
                if (group < 0x80 && value <= 0xffffffffL) {
                    return value;
                }
                if (group < 0x80) {
                    break;
                }
            }
            throw new IllegalArgumentException();
        }

        private long readSigned(int bits) {
            long value = 0;
            for (int shift = 0; shift < bits && next < end; shift += 7) {
                int group = bytes[next] & 0xff;
                next++;
                value |= (long) (group & 0x7f) << shift;
                if (group < 0x80) {
                    int above = shift < 57 ? 57 - shift : 0;
                    value = value << above >> above;
                    /* The tenth group has one bit of the value; the others are its sign again. */
                    long sign = shift == 63 ? (long) (group << 25 >> 25) : value >> (bits - 1);
                    if (sign == 0 || sign == -1) {
                        return value;
                    }
                    break;
                }
            }
            throw new IllegalArgumentException();
        }

        /* A U that is a number of something, or counts it: none can be as great as an int. */
        private int readNumber() {
            return (int) Math.min(readUnsigned(), Numbers.MOST_32);
        }

        /* How many bytes follow, which must be there. */
        private int readSize(int limit) {
            long size = readUnsigned();
            if (size > limit - next) {
                throw new IllegalArgumentException();
            }
            return (int) size;
        }

        private int readFlag() {
            int flag = readByte();
            if (flag > 1) {
                throw new IllegalArgumentException();
            }
            return flag;
        }

        private void expect(int wanted) {
            if (readByte() != wanted) {
                throw new IllegalArgumentException();
            }
        }

        private int readTarget() {
            int mark = peekByte();
            if (mark == 0x6d || mark == 0x6c) {
                next++;
                return mark == 0x6d ? Types.ANYTHING : Types.SMALL;
            }
            long number = readSigned(33);
            if (number < 0) {
                throw new IllegalArgumentException();
            }
            return Types.FIRST + (int) Math.min(number, PARTS);
        }

        private int readValueType() {
            switch (readByte()) {
                case 0x7f:
                    return Types.I32;
                case 0x7e:
                    return Types.I64;
                case 0x6d:
                    return Types.reference(Types.ANYTHING, true);
                case 0x6c:
                    return Types.reference(Types.SMALL, true);
                case 0x63:
                    return Types.reference(readTarget(), true);
                case 0x64:
                    return Types.reference(readTarget(), false);
                default:
                    throw new IllegalArgumentException();
            }
        }

        private int readBlockType() {
            switch (peekByte()) {
                case 0x40:
                    next++;
                    return 0;
                case 0x7f, 0x7e, 0x6d, 0x6c, 0x63, 0x64:
                    return readValueType();
                default:
                    break;
            }
            long number = readSigned(33);
            if (number < 0) {
                throw new IllegalArgumentException();
            }
            return BLOCK_OF_TYPE + (int) Math.min(number, PARTS);
        }

        private void readTypes() {
            int count = readNumber();
            types.count = count;
            for (int k = 0; k < count; k++) {
                int type = Math.min(k, PARTS);
                int kind = readByte();
                types.kind[type] = kind;
                types.results[type] = 0;
                switch (kind) {
                    case Types.FUNCTION -> readSignature(type);
                    case Types.STRUCTURE -> readFields(type, readNumber());
                    case Types.ARRAY -> readFields(type, 1);
                    default -> throw new IllegalArgumentException();
                }
            }
        }

        private void readSignature(int type) {
            int parameters = readNumber();
            types.members[type] = parameters;
            for (int k = 0; k < parameters; k++) {
                types.setMember(type, k, readValueType());
            }
            int results = readNumber();
            types.results[type] = results;
            for (int k = 0; k < results; k++) {
                types.setOutcome(type, k, readValueType());
            }
        }

        private void readFields(int type, int count) {
            types.members[type] = count;
            for (int k = 0; k < count; k++) {
                int mark = peekByte();
                if (mark == 0x78 || mark == 0x77) {
                    next++;
                    types.setMember(type, k, mark == 0x78 ? Types.BITS8 : Types.BITS16);
                } else {
                    types.setMember(type, k, readValueType());
                }
                types.setOutcome(type, k, readFlag());
            }
        }

        private void readFunctions() {
            int count = readNumber();
            module.functions.count = count;
            for (int k = 0; k < count; k++) {
                module.functions.kind[Math.min(k, PARTS)] = readNumber();
            }
        }

        private void readTables() {
            int count = readNumber();
            module.tables.count = count;
            for (int k = 0; k < count; k++) {
                expect(0x70);
                readLimits(module.tables, Math.min(k, PARTS));
            }
        }

        private void readMemories() {
            int count = readNumber();
            module.memories.count = count;
            for (int k = 0; k < count; k++) {
                readLimits(module.memories, Math.min(k, PARTS));
            }
        }

        private void readLimits(Row row, int place) {
            int told = readFlag();
            row.first[place] = readNumber();
            row.second[place] = told == 1 ? readNumber() : Numbers.MOST_32;
        }

        private void readGlobals() {
            Row globals = module.globals;
            int count = readNumber();
            globals.count = count;
            for (int k = 0; k < count; k++) {
                int place = Math.min(k, PARTS);
                globals.kind[place] = readValueType();
                globals.first[place] = readFlag();
                switch (readByte()) {
                    case I32_VALUE -> {
                        globals.second[place] = Types.I32;
                        globals.number[place] = readSigned(32);
                    }
                    case I64_VALUE -> {
                        globals.second[place] = Types.I64;
                        globals.number[place] = readSigned(64);
                    }
                    case NULL_VALUE -> globals.second[place] = Types.reference(readTarget(), true);
                    default -> throw new IllegalArgumentException();
                }
                expect(END);
            }
        }

        private void readExports() {
            int count = readNumber();
            module.exports.count = count;
            for (int k = 0; k < count; k++) {
                int place = Math.min(k, PARTS);
                passBytes(module.exports, place);
                int kind = readByte();
                if (kind > EXPORTED_GLOBAL) {
                    throw new IllegalArgumentException();
                }
                module.exports.kind[place] = kind;
                module.exports.number[place] = readNumber();
            }
        }

        /* A row of bytes is left where it lies: only its place and length are noted. */
        private void passBytes(Row row, int place) {
            int length = readSize(end);
            row.first[place] = next;
            row.second[place] = length;
            next += length;
        }

        private long readPlace() {
            expect(0);
            expect(I32_VALUE);
            long place = readSigned(32) & 0xffffffffL;
            expect(END);
            return place;
        }

        private void readElements() {
            Row elements = module.elements;
            int count = readNumber();
            elements.count = count;
            for (int k = 0; k < count; k++) {
                int place = Math.min(k, PARTS);
                elements.number[place] = readPlace();
                elements.first[place] = code.numbersSize;
                elements.second[place] = readNumbers();
            }
        }

        private int readNumbers() {
            int count = readNumber();
            for (int k = 0; k < count; k++) {
                code.addNumber(readNumber());
            }
            return count;
        }

        private void readData() {
            int count = readNumber();
            module.data.count = count;
            for (int k = 0; k < count; k++) {
                int place = Math.min(k, PARTS);
                module.data.number[place] = readPlace();
                passBytes(module.data, place);
            }
        }

        private void readCode() {
            int sectionEnd = end;
            int count = readNumber();
            module.bodies = count;
            for (int k = 0; k < count; k++) {
                int size = readSize(sectionEnd);
                end = next + size;
                module.functions.first[Math.min(k, PARTS)] = code.size;
                code.add(BODY, 0, 0);
                int open = code.opened(NONE);
                readLocals();
                for (int done = 0; done < TAPE && open != NONE; done++) {
                    open = readInstruction(open);
                }
                if (next != end) {
                    throw new IllegalArgumentException();
                }
                end = sectionEnd;
            }
        }

        private void readLocals() {
            int groups = readNumber();
            for (int k = 0; k < groups; k++) {
                int count = readNumber();
                code.add(LOCALS, count, readValueType());
            }
        }

        /* Tells the innermost open block behind the instruction, given the one ahead of it. */
        private int readInstruction(int open) {
            int op = readByte();
            if (op == OBJECT_PREFIX) {
                op = OBJECT + Math.min(readNumber(), OBJECT_LAST + 1);
            }
            char shape = op > OBJECT + OBJECT_LAST ? '!' : SHAPE[op];
            switch (shape) {
                case '.' -> code.add(op, 0, 0);
                case 'u' -> code.add(op, readNumber(), 0);
                case 'w' -> code.add(op, readNumber(), readUnsigned());
                case 'i' -> code.add(op, 0, readSigned(32));
                case 'l' -> code.add(op, 0, readSigned(64));
                case 't' -> code.add(op, readTarget(), 0);
                case 'r' -> readWays(op);
                case 'z' -> {
                    expect(0);
                    code.add(op, 0, 0);
                }
                case 'b' -> {
                    code.add(op, readBlockType(), 0);
                    return code.opened(open);
                }
                case 'e' -> {
                    if (code.op[open] != IF) {
                        throw new IllegalArgumentException();
                    }
                    code.add(op, 0, 0);
                    return code.turned(open);
                }
                case 'n' -> {
                    code.add(code.op[open] == BODY ? BODY_END : END, 0, 0);
                    return code.closed(open);
                }
                case '-' -> throw new UnsupportedOperationException();
                default -> throw new IllegalArgumentException();
            }
            return open;
        }

        private void readWays(int op) {
            int from = code.numbersSize;
            int count = readNumbers();
            code.addNumber(readNumber());
            code.add(op, from, count);
        }
    }

    /**
     * Checks a module that could be read. What is not as it must be ends it, with an
     * IllegalArgumentException.
     */
    private static final class Checker {
        private static final int ANY_REFERENCE = Types.REFERENCE + 2 * Types.ANYTHING + 1;
        private static final int SMALL_REFERENCE = Types.REFERENCE + 2 * Types.SMALL + 1;

        private final ReadModule module;
        private final Types types;
        private final Code code;
        private final int[] stack = new int[VALUES_MOST];
        private final int[] opened = new int[BLOCKS_MOST];
        private final boolean[] lost = new boolean[BLOCKS_MOST];
        private final int[] local = new int[LOCALS_MOST];
        private int height;
        private int floor;
        private int depth;
        private int locals;

        Checker(ReadModule module) {
            this.module = module;
            this.types = module.types;
            this.code = module.code;
        }

        private static void need(boolean held) {
            if (!held) {
                throw new IllegalArgumentException();
            }
        }

        /* All but the bodies, which are checked behind it, one by one. */
        void checkParts() {
            need(types.count <= PARTS && module.functions.count <= PARTS && module.globals.count <= PARTS);
            need(module.exports.count <= PARTS && module.elements.count <= PARTS && module.data.count <= PARTS);
            need(module.bodies == module.functions.count);
            checkTypes();
            checkFunctions();
            checkLimits(module.tables, PARTS);
            checkLimits(module.memories, PAGES_MOST);
            checkGlobals();
            checkExports();
            checkSegments();
        }

        private void checkTypes() {
            for (int type = 0; type < types.count; type++) {
                need(types.members[type] <= MEMBERS && types.results[type] <= MEMBERS);
                for (int k = 0; k < types.members[type]; k++) {
                    needWithin(types.member(type, k), type);
                }
                for (int k = 0; k < types.results[type]; k++) {
                    needWithin(types.outcome(type, k), type);
                }
            }
            types.group();
        }

        private void needWithin(int code, int type) {
            need(types.knows(code));
            need(!Types.isReference(code) || Types.target(code) - Types.FIRST <= type);
        }

        private void checkFunctions() {
            for (int k = 0; k < module.functions.count; k++) {
                need(types.is(module.functions.kind[k], Types.FUNCTION));
            }
            if (module.starter != NONE) {
                need(module.starter < module.functions.count);
                int type = module.functions.kind[module.starter];
                need(types.members[type] == 0 && types.results[type] == 0);
            }
        }

        private void checkLimits(Row row, int most) {
            need(row.count <= 1);
            need(row.count == 0 || row.first[0] <= most && row.first[0] <= row.second[0]);
        }

        private void checkGlobals() {
            Row globals = module.globals;
            for (int k = 0; k < globals.count; k++) {
                need(types.knows(globals.kind[k]) && types.knows(globals.second[k]));
                need(types.fits(globals.second[k], globals.kind[k]));
            }
        }

        private void checkExports() {
            Row exports = module.exports;
            for (int k = 0; k < exports.count; k++) {
                int bound = switch (exports.kind[k]) {
                    case EXPORTED_FUNCTION -> module.functions.count;
                    case EXPORTED_TABLE -> module.tables.count;
                    case EXPORTED_MEMORY -> module.memories.count;
                    default -> module.globals.count;
                };
                need(exports.number[k] < bound);
                for (int other = 0; other < k; other++) {
                    need(exports.second[k] != exports.second[other] || !sameName(k, other));
                }
            }
        }

        private boolean sameName(int export, int other) {
            int from = module.exports.first[export];
            int otherFrom = module.exports.first[other];
            for (int k = 0; k < module.exports.second[export]; k++) {
                if (module.bytes[from + k] != module.bytes[otherFrom + k]) {
                    return false;
                }
            }
            return true;
        }

        private void checkSegments() {
            need(module.elements.count == 0 || module.tables.count == 1);
            need(module.data.count == 0 || module.memories.count == 1);
            for (int k = 0; k < module.elements.count; k++) {
                int from = module.elements.first[k];
                for (int n = from; n < from + module.elements.second[k]; n++) {
                    need(code.numbers[n] < module.functions.count);
                }
            }
        }

        void checkBody(int function) {
            int type = module.functions.kind[function];
            int body = module.functions.first[function];
            locals = types.members[type];
            for (int k = 0; k < locals; k++) {
                local[k] = types.member(type, k);
            }
            height = 0;
            depth = 0;
            code.first[body] = BLOCK_OF_TYPE + type;
            openPart(body);
            for (int here = body + 1; here < code.size && depth > 0; here++) {
                checkInstruction(here);
            }
            module.functions.second[function] = locals;
        }

        private void checkInstruction(int here) {
            int op = code.op[here];
            if (op < CALL) {
                checkControl(op, here);
            } else if (op < Memory.FIRST_LOAD) {
                checkSimple(op, code.first[here], here);
            } else if (op <= GROW) {
                checkMemory(op, code.first[here]);
            } else if (op <= I64_VALUE) {
                push(op == I32_VALUE ? Types.I32 : Types.I64);
            } else if (op < NULL_VALUE) {
                checkNumeric(op);
            } else if (op < OBJECT) {
                checkReference(op, here);
            } else if (op < OBJECT + FIRST_OF_ARRAY) {
                checkStructure(op - OBJECT, code.first[here], code.second[here]);
            } else if (op < OBJECT + FIRST_OF_KIND) {
                checkArray(op - OBJECT, code.first[here], code.second[here]);
            } else {
                checkKind(op - OBJECT, code.first[here]);
            }
        }

        private void push(int type) {
            need(height < VALUES_MOST);
            stack[height] = type;
            height++;
        }

        private int pop() {
            if (height > floor) {
                height--;
                return stack[height];
            }
            if (!lost[depth - 1]) {
                throw new IllegalArgumentException();
            }
            return Types.UNKNOWN;
        }

        private void pop(int wanted) {
            need(types.fits(pop(), wanted));
        }

        private int popReference() {
            int type = pop();
            if (type == Types.UNKNOWN) {
                return Types.reference(Types.UNTOLD, false);
            }
            need(Types.isReference(type));
            return type;
        }

        private void lose() {
            height = floor;
            lost[depth - 1] = true;
        }

        private int parameterCount(int block) {
            int type = code.first[block];
            return type < BLOCK_OF_TYPE ? 0 : types.members[type - BLOCK_OF_TYPE];
        }

        private int resultCount(int block) {
            int type = code.first[block];
            if (type < BLOCK_OF_TYPE) {
                return type == 0 ? 0 : 1;
            }
            return types.results[type - BLOCK_OF_TYPE];
        }

        private int resultOf(int block, int k) {
            int type = code.first[block];
            return type < BLOCK_OF_TYPE ? type : types.outcome(type - BLOCK_OF_TYPE, k);
        }

        private int parameterOf(int block, int k) {
            return types.member(code.first[block] - BLOCK_OF_TYPE, k);
        }

        /* What a way to a block's end, or to a loop's beginning, takes. */
        private int wayType(int block, int k) {
            int type = code.first[block];
            if (type < BLOCK_OF_TYPE) {
                return type;
            }
            int number = type - BLOCK_OF_TYPE;
            return code.op[block] == LOOP ? types.member(number, k) : types.outcome(number, k);
        }

        private int blockAt(int label) {
            need(label < depth);
            return opened[depth - 1 - label];
        }

        private void popWay(int block, int count) {
            for (int k = count - 1; k >= 0; k--) {
                pop(wayType(block, k));
            }
        }

        private void pushWay(int block, int count) {
            for (int k = 0; k < count; k++) {
                push(wayType(block, k));
            }
        }

        private int wayCount(int block) {
            return (int) code.second[block];
        }

        private void checkControl(int op, int here) {
            switch (op) {
                case TRAP -> lose();
                case LOCALS -> declare(code.first[here], (int) code.second[here]);
                case BLOCK, LOOP -> open(here);
                case IF -> {
                    pop(Types.I32);
                    open(here);
                }
                case ELSE -> turn();
                case END, BODY_END -> close();
                case BRANCH -> {
                    int block = branch(here);
                    popWay(block, wayCount(block));
                    lose();
                }
                case BRANCH_IF -> {
                    pop(Types.I32);
                    int block = branch(here);
                    popWay(block, wayCount(block));
                    pushWay(block, wayCount(block));
                }
                case BRANCH_BY_ROW -> checkWays(code.first[here], (int) code.second[here]);
                case RETURN -> {
                    popWay(opened[0], wayCount(opened[0]));
                    lose();
                }
                default -> {
                }
            }
        }

        private int branch(int here) {
            int block = blockAt(code.first[here]);
            code.mate[here] = block;
            return block;
        }

        private void declare(int count, int type) {
            need(types.knows(type) && Types.hasDefault(type));
            need(count <= LOCALS_MOST - locals);
            Arrays.fill(local, locals, locals + count, type);
            locals += count;
        }

        private void openPart(int block) {
            need(depth < BLOCKS_MOST);
            code.height[block] = height;
            code.second[block] = code.op[block] == LOOP ? parameterCount(block) : resultCount(block);
            opened[depth] = block;
            lost[depth] = false;
            floor = height;
            depth++;
        }

        private void open(int block) {
            int type = code.first[block];
            need(type >= BLOCK_OF_TYPE ? types.is(type - BLOCK_OF_TYPE, Types.FUNCTION) : types.knows(type));
            int count = parameterCount(block);
            for (int k = count - 1; k >= 0; k--) {
                pop(parameterOf(block, k));
            }
            openPart(block);
            pushParameters(block, count);
        }

        private void pushParameters(int block, int count) {
            for (int k = 0; k < count; k++) {
                push(parameterOf(block, k));
            }
        }

        private void popResults(int block) {
            for (int k = resultCount(block) - 1; k >= 0; k--) {
                pop(resultOf(block, k));
            }
            need(height == floor);
        }

        private void turn() {
            int block = opened[depth - 1];
            popResults(block);
            lost[depth - 1] = false;
            pushParameters(block, parameterCount(block));
        }

        private void close() {
            int block = opened[depth - 1];
            popResults(block);
            if (code.op[block] == IF && code.op[code.mate[block]] == END) {
                needUnchanged(block);
            }
            depth--;
            if (depth > 0) {
                floor = code.height[opened[depth - 1]];
                for (int k = 0; k < resultCount(block); k++) {
                    push(resultOf(block, k));
                }
            }
        }

        private void needUnchanged(int block) {
            int count = resultCount(block);
            need(parameterCount(block) == count);
            for (int k = 0; k < count; k++) {
                need(types.same(parameterOf(block, k), resultOf(block, k)));
            }
        }

        private void checkWays(int from, int count) {
            pop(Types.I32);
            int taken = wayCount(blockAt(code.numbers[from + count]));
            for (int n = from; n <= from + count; n++) {
                int block = blockAt(code.numbers[n]);
                code.numbers[n] = block;
                need(wayCount(block) == taken);
                needThere(block, taken);
            }
            lose();
        }

        /* As popWay, but the values stay what they are: each way must find them so. */
        private void needThere(int block, int count) {
            for (int k = 0; k < count; k++) {
                int place = height - count + k;
                need(place >= floor ? types.fits(stack[place], wayType(block, k)) : lost[depth - 1]);
            }
        }

        private void checkSimple(int op, int number, int here) {
            switch (op) {
                case CALL -> {
                    need(number < module.functions.count);
                    checkCall(module.functions.kind[number]);
                }
                case CALL_BY_TABLE -> {
                    need(types.is(number, Types.FUNCTION) && module.tables.count == 1 && code.second[here] == 0);
                    pop(Types.I32);
                    checkCall(number);
                }
                case DROP -> pop();
                case CHOOSE -> checkChoice();
                case GET_LOCAL, SET_LOCAL, KEEP_LOCAL -> {
                    need(number < locals);
                    checkVariable(op - GET_LOCAL, local[number]);
                }
                default -> {
                    need(number < module.globals.count);
                    need(op == GET_GLOBAL || module.globals.first[number] == 1);
                    checkVariable(op - GET_GLOBAL, module.globals.kind[number]);
                }
            }
        }

        /* Way 0: the value comes; 1: it is set; 2: it is set and stays. */
        private void checkVariable(int way, int type) {
            if (way > 0) {
                pop(type);
            }
            if (way != 1) {
                push(type);
            }
        }

        private void checkCall(int type) {
            for (int k = types.members[type] - 1; k >= 0; k--) {
                pop(types.member(type, k));
            }
            for (int k = 0; k < types.results[type]; k++) {
                push(types.outcome(type, k));
            }
        }

        private void checkChoice() {
            pop(Types.I32);
            int second = pop();
            int first = pop();
            need(!Types.isReference(first) && !Types.isReference(second));
            need(first == second || first == Types.UNKNOWN || second == Types.UNKNOWN);
            push(Math.max(first, second));
        }

        private void checkMemory(int op, int align) {
            need(module.memories.count == 1);
            if (op >= COUNT_PAGES) {
                if (op == GROW) {
                    pop(Types.I32);
                }
                push(Types.I32);
                return;
            }
            need(align <= 3 && 1 << align <= Memory.width(op));
            int type = Memory.isWide(op) ? Types.I64 : Types.I32;
            if (op >= Memory.FIRST_STORE) {
                pop(type);
                pop(Types.I32);
            } else {
                pop(Types.I32);
                push(type);
            }
        }

        private void checkNumeric(int op) {
            if (op <= 0x4f) {
                compute(op == 0x45 ? 1 : 2, Types.I32, Types.I32);
            } else if (op <= 0x5a) {
                compute(op == 0x50 ? 1 : 2, Types.I64, Types.I32);
            } else if (op <= 0x78) {
                compute(op <= 0x69 ? 1 : 2, Types.I32, Types.I32);
            } else if (op <= 0x8a) {
                compute(op <= 0x7b ? 1 : 2, Types.I64, Types.I64);
            } else if (op == 0xa7) {
                compute(1, Types.I64, Types.I32);
            } else if (op <= 0xad) {
                compute(1, Types.I32, Types.I64);
            } else if (op <= 0xc1) {
                compute(1, Types.I32, Types.I32);
            } else {
                compute(1, Types.I64, Types.I64);
            }
        }

        private void compute(int operands, int from, int to) {
            for (int k = 0; k < operands; k++) {
                pop(from);
            }
            push(to);
        }

        private void checkReference(int op, int here) {
            switch (op) {
                case NULL_VALUE -> {
                    need(types.knowsTarget(code.first[here]));
                    push(Types.reference(code.first[here], true));
                }
                case IS_NULL -> {
                    popReference();
                    push(Types.I32);
                }
                case SAME_REFERENCE -> compute(2, ANY_REFERENCE, Types.I32);
                case NOT_NULL -> push(Types.notNull(popReference()));
                case BRANCH_ON_NULL -> {
                    int type = Types.notNull(popReference());
                    int block = branch(here);
                    popWay(block, wayCount(block));
                    pushWay(block, wayCount(block));
                    push(type);
                }
                default -> {
                    int type = Types.notNull(popReference());
                    int block = branch(here);
                    int others = wayCount(block) - 1;
                    need(others >= 0 && types.fits(type, wayType(block, others)));
                    popWay(block, others);
                    pushWay(block, others);
                }
            }
        }

        private void checkStructure(int op, int type, long field) {
            need(types.is(type, Types.STRUCTURE));
            int count = types.members[type];
            if (op <= 1) {
                for (int k = count - 1; k >= 0; k--) {
                    need(op == 0 || Types.hasDefault(types.member(type, k)));
                    if (op == 0) {
                        pop(Types.unpacked(types.member(type, k)));
                    }
                }
                push(Types.reference(Types.FIRST + type, false));
                return;
            }
            need(field < count);
            int part = types.member(type, (int) field);
            if (op == 5) {
                need(types.canBeSet(type, (int) field));
                pop(Types.unpacked(part));
                pop(Types.reference(Types.FIRST + type, true));
            } else {
                need(Types.isPacked(part) == (op > 2));
                pop(Types.reference(Types.FIRST + type, true));
                push(Types.unpacked(part));
            }
        }

        private void checkArray(int op, int type, long count) {
            if (op == 15) {
                checkLength();
                return;
            }
            need(types.is(type, Types.ARRAY));
            int part = types.member(type, 0);
            if (op <= 8) {
                checkNewArray(op, part, count);
                push(Types.reference(Types.FIRST + type, false));
                return;
            }
            if (op == 16) {
                pop(Types.I32);
            }
            if (op >= 14) {
                need(types.canBeSet(type, 0));
                pop(Types.unpacked(part));
            }
            pop(Types.I32);
            pop(Types.reference(Types.FIRST + type, true));
            if (op <= 13) {
                need(Types.isPacked(part) == (op > 11));
                push(Types.unpacked(part));
            }
        }

        private void checkNewArray(int op, int part, long count) {
            if (op == 8) {
                need(count <= PARTS);
                for (int k = 0; k < count; k++) {
                    pop(Types.unpacked(part));
                }
                return;
            }
            pop(Types.I32);
            if (op == 6) {
                pop(Types.unpacked(part));
            } else {
                need(Types.hasDefault(part));
            }
        }

        private void checkLength() {
            int target = Types.target(popReference());
            need(target == Types.UNTOLD || target >= Types.FIRST && types.is(target - Types.FIRST, Types.ARRAY));
            push(Types.I32);
        }

        private void checkKind(int op, int target) {
            if (op == 28) {
                pop(Types.I32);
                push(Types.notNull(SMALL_REFERENCE));
            } else if (op > 28) {
                pop(SMALL_REFERENCE);
                push(Types.I32);
            } else {
                need(types.knowsTarget(target));
                pop(ANY_REFERENCE);
                push(op < 22 ? Types.I32 : Types.reference(target, op == 23));
            }
        }
    }

    /**
     * A row of values, used as a stack, for globals, and for the fields of objects. An i32 lies
     * there with its sign. A reference is 0 for null, the handle of an object, or below 0 for a
     * small number; which values are references is noted, so that what lives can be found.
     */
    private static final class Values {
        final long[] value;
        final boolean[] refers;
        int top;

        Values(int places) {
            value = new long[places];
            refers = new boolean[places];
        }

        void push(long number) {
            value[top] = number;
            refers[top] = false;
            top++;
        }

        void pushTruth(boolean truth) {
            push(truth ? 1 : 0);
        }

        void pushReference(long reference) {
            value[top] = reference;
            refers[top] = true;
            top++;
        }

        long pop() {
            top--;
            return value[top];
        }

        void copy(Values from, int place, int to) {
            value[to] = from.value[place];
            refers[to] = from.refers[place];
        }

        void pushFrom(Values from, int place) {
            copy(from, place, top);
            top++;
        }

        void pushZeros(int count) {
            Arrays.fill(value, top, top + count, 0L);
            for (int k = 0; k < count; k++) {
                refers[top + k] = false;
            }
            top += count;
        }

        /* The top values come down to a place, and all between goes. */
        void slide(int count, int to) {
            int from = top - count;
            for (int k = 0; k < count && from != to; k++) {
                copy(this, from + k, to + k);
            }
            top = to + count;
        }
    }

    /**
     * The objects. They lie one behind the other in the cells: the object's handle, then its
     * fields or elements. Only when the cells are full is it looked which objects live; these
     * are moved together then, and keep their handles.
     */
    private static final class Heap {
        final Values cells = new Values(ROOM);
        final int[] kind = new int[ROOM + 1];
        final int[] size = new int[ROOM + 1];
        private final int[] start = new int[ROOM + 1];
        private final boolean[] lives = new boolean[ROOM + 1];
        private final int[] free = new int[ROOM];
        private final int[] found = new int[ROOM];
        private int freeCount = 0;
        private int foundCount = 0;

        void clear() {
            cells.top = 0;
            if (freeCount < ROOM) {
                freeCount = ROOM;
                for (int k = 0; k < ROOM; k++) {
                    free[k] = ROOM - k;
                }
            }
        }

        int cellOf(int handle, int k) {
            return start[handle] + 1 + k;
        }

        /* The handle of a new object with 0s, or 0 if there is no room. */
        int make(int type, long count, Values stack, Values globals) {
            if (cells.top + 1 + count > ROOM && collect(stack, globals) + 1 + count > ROOM) {
                return 0;
            }
            freeCount--;
            int handle = free[freeCount];
            kind[handle] = type;
            size[handle] = (int) count;
            start[handle] = cells.top;
            cells.push(handle);
            cells.pushZeros((int) count);
            return handle;
        }

        /* Lets go what does not live, and tells what the rest takes. */
        int collect(Values stack, Values globals) {
            foundCount = 0;
            find(stack, 0, stack.top);
            find(globals, 0, globals.top);
            for (int k = 0; k < foundCount && k < ROOM; k++) {
                int handle = found[k];
                find(cells, cellOf(handle, 0), cellOf(handle, size[handle]));
            }
            moveTogether();
            return cells.top;
        }

        private void find(Values row, int from, int to) {
            for (int k = from; k < to; k++) {
                if (row.refers[k] && row.value[k] > 0 && !lives[(int) row.value[k]]) {
                    lives[(int) row.value[k]] = true;
                    found[foundCount] = (int) row.value[k];
                    foundCount++;
                }
            }
        }

        /* The marks of what lives are taken away again on the way. */
        private void moveTogether() {
            int to = 0;
            int from = 0;
            while (from < cells.top) {
                int handle = (int) cells.value[from];
                int taken = 1 + size[handle];
                if (lives[handle]) {
                    lives[handle] = false;
                    start[handle] = to;
                    System.arraycopy(cells.value, from, cells.value, to, taken);
                    System.arraycopy(cells.refers, from, cells.refers, to, taken);
                    to += taken;
                } else {
                    free[freeCount] = handle;
                    freeCount++;
                }
                from += taken;
            }
            cells.top = to;
        }
    }

    /** The memory of bytes. All behind its pages is 0. */
    private static final class Memory {
        static final int FIRST_LOAD = 0x28;
        static final int FIRST_STORE = 0x36;
        private static final int[] WIDTH = {4, 8, 0, 0, 1, 1, 2, 2, 1, 1, 2, 2, 4, 4, 4, 8, 0, 0, 1, 2, 1, 2, 4};

        int pages;
        private int most;
        private final byte[] bytes = new byte[PAGE * PAGES_MOST];

        static int width(int op) {
            return WIDTH[op - FIRST_LOAD];
        }

        /* Whether the value of the instruction is an i64. */
        static boolean isWide(int op) {
            return op == 0x29 || op >= 0x30 && op <= 0x35 || op == 0x37 || op >= 0x3c;
        }

        void clear() {
            Arrays.fill(bytes, 0, PAGE * pages, (byte) 0);
            pages = 0;
            most = 0;
        }

        void begin(int leastPages, int mostPages) {
            pages = leastPages;
            most = Math.min(mostPages, PAGES_MOST);
        }

        boolean holds(long address, long count) {
            return address + count <= (long) PAGE * pages;
        }

        long taken(int address, int count) {
            long value = 0;
            for (int k = 0; k < count; k++) {
                value |= (bytes[address + k] & 0xffL) << (8 * k);
            }
            return value;
        }

        void put(int address, int count, long value) {
            for (int k = 0; k < count; k++) {
                bytes[address + k] = (byte) (value >>> (8 * k));
            }
        }

        void putAll(byte[] from, int first, int count, int address) {
            System.arraycopy(from, first, bytes, address, count);
        }

        int grow(long more) {
            if (pages + more > most) {
                return -1;
            }
            int before = pages;
            pages += (int) more;
            return before;
        }
    }

    /** What the instructions on numbers answer, with no more of the library than rule 4 names. */
    private static final class Numbers {
        static final int LEAST_32 = 0x80000000;
        static final int MOST_32 = 0x7fffffff;
        static final long LEAST_64 = 0x8000000000000000L;
        private static final long BITS_32 = 0xffffffffL;
        private static final int QUOTIENT = 3;
        private static final int REST_UNSIGNED = 6;

        /* An i32 with its sign keeps its order as an i64, also unsigned: one function does for both. */
        static boolean holds(int relation, long a, long b) {
            return switch (relation) {
                case 0 -> a == b;
                case 1 -> a != b;
                case 2 -> a < b;
                case 3 -> isBelow(a, b);
                case 4 -> a > b;
                case 5 -> isBelow(b, a);
                case 6 -> a <= b;
                case 7 -> !isBelow(b, a);
                case 8 -> a >= b;
                default -> !isBelow(a, b);
            };
        }

        /* Unsigned: the least number added turns the order round where the sign is another. */
        private static boolean isBelow(long a, long b) {
            return a + LEAST_64 < b + LEAST_64;
        }

        static int trapOf(int operation, long a, long b, long least) {
            if (operation < QUOTIENT || operation > REST_UNSIGNED) {
                return 0;
            }
            if (b == 0) {
                return TRAP_BY_ZERO;
            }
            return operation == QUOTIENT && a == least && b == -1 ? TRAP_BEYOND : 0;
        }

        static int counted32(int op, int a) {
            return switch (op) {
                case 0x67 -> leading(a & BITS_32) - 32;
                case 0x68 -> Integer.bitCount(a - 1 & ~a);
                default -> Integer.bitCount(a);
            };
        }

        static int counted64(int op, long a) {
            return switch (op) {
                case 0x79 -> leading(a);
                case 0x7a -> Long.bitCount(a - 1 & ~a);
                default -> Long.bitCount(a);
            };
        }

        /* The highest bit is spread over all those below it: what is still 0 lies above. */
        private static int leading(long a) {
            long spread = a;
            for (int by = 1; by <= 32; by *= 2) {
                spread |= spread >>> by;
            }
            return Long.bitCount(~spread);
        }

        /* No divisor is 0 here: trapOf was asked. */
        static int answer32(int operation, int a, int b) {
            return switch (operation) {
                case 0 -> a + b;
                case 1 -> a - b;
                case 2 -> a * b;
                case 3 -> a / b;
                case 4 -> (int) ((a & BITS_32) / (b & BITS_32));
                case 5 -> a % b;
                case 6 -> (int) ((a & BITS_32) % (b & BITS_32));
                case 7 -> a & b;
                case 8 -> a | b;
                case 9 -> a ^ b;
                case 10 -> a << b;
                case 11 -> a >> b;
                case 12 -> a >>> b;
                case 13 -> a << b | a >>> -b;
                default -> a >>> b | a << -b;
            };
        }

        static long answer64(int operation, long a, long b) {
            return switch (operation) {
                case 0 -> a + b;
                case 1 -> a - b;
                case 2 -> a * b;
                case 3 -> a / b;
                case 4 -> quotient(a, b);
                case 5 -> a % b;
                case 6 -> a - quotient(a, b) * b;
                case 7 -> a & b;
                case 8 -> a | b;
                case 9 -> a ^ b;
                case 10 -> a << b;
                case 11 -> a >> b;
                case 12 -> a >>> b;
                case 13 -> a << b | a >>> -b;
                default -> a >>> b | a << -b;
            };
        }

        /*
         * Unsigned, of a divisor that is not 0. One with the highest bit goes in at most once. By
         * another one half of a is divided, which has no sign; twice that is at most 1 too little.
         */
        private static long quotient(long a, long b) {
            if (b < 0) {
                return isBelow(a, b) ? 0 : 1;
            }
            long about = (a >>> 1) / b << 1;
            return isBelow(a - about * b, b) ? about : about + 1;
        }

        /* The lowest bits with their sign. */
        static long signed(long a, int bits) {
            return a << (64 - bits) >> (64 - bits);
        }
    }

    /** An instance, and the calls within it. The checker has seen to it that all it takes is there. */
    private static final class Machine {
        final Values values = new Values(CALLS_MOST * (LOCALS_MOST + VALUES_MOST));
        final Values globals = new Values(PARTS);
        final Heap heap = new Heap();
        final Memory memory = new Memory();
        int turns;
        private final ReadModule module;
        private final Types types;
        private final Code code;
        private final int[] table = new int[PARTS];
        private final int[] function = new int[CALLS_MOST];
        private final int[] base = new int[CALLS_MOST];
        private final int[] back = new int[CALLS_MOST];
        private int depth;
        private int floor;
        private int next;
        private int trap;

        Machine(ReadModule module) {
            this.module = module;
            this.types = module.types;
            this.code = module.code;
        }

        void clear() {
            values.top = 0;
            globals.top = 0;
            heap.clear();
            memory.clear();
        }

        /* An instance of the module comes to be: a trap if elements or data don't fit. */
        int begin() {
            for (int k = 0; k < module.globals.count; k++) {
                if (Types.isReference(module.globals.kind[k])) {
                    globals.pushReference(0);
                } else {
                    globals.push(module.globals.number[k]);
                }
            }
            Arrays.fill(table, NONE);
            if (module.memories.count == 1) {
                memory.begin(module.memories.first[0], module.memories.second[0]);
            }
            int misfit = placeElements();
            return misfit == 0 ? placeData() : misfit;
        }

        private int placeElements() {
            Row elements = module.elements;
            for (int k = 0; k < elements.count; k++) {
                int count = elements.second[k];
                if (elements.number[k] + count > module.tablePlaces()) {
                    return TRAP_TABLE;
                }
                System.arraycopy(code.numbers, elements.first[k], table, (int) elements.number[k], count);
            }
            return 0;
        }

        private int placeData() {
            Row data = module.data;
            for (int k = 0; k < data.count; k++) {
                if (!memory.holds(data.number[k], data.second[k])) {
                    return TRAP_MEMORY;
                }
                memory.putAll(module.bytes, data.first[k], data.second[k], (int) data.number[k]);
            }
            return 0;
        }

        /* The arguments lie on the stack; behind it, if there is no trap, the results do. */
        int run(int called, int allowed) {
            turns = allowed;
            trap = 0;
            depth = 0;
            enter(called);
            /* From one turn to the next a call only goes forward, so all steps have a bound. */
            for (long left = (allowed + 1L) * TAPE; left > 0 && trap == 0 && depth > 0; left--) {
                int here = next;
                next++;
                step(code.op[here], here);
            }
            return trap;
        }

        private void step(int op, int here) {
            if (op < CALL) {
                doControl(op, here);
            } else if (op < Memory.FIRST_LOAD) {
                doSimple(op, code.first[here]);
            } else if (op <= GROW) {
                doMemory(op, code.second[here]);
            } else if (op <= I64_VALUE) {
                values.push(code.second[here]);
            } else if (op < NULL_VALUE) {
                doNumeric(op);
            } else if (op < OBJECT) {
                doReference(op, here);
            } else if (op < OBJECT + FIRST_OF_ARRAY) {
                doStructure(op - OBJECT, code.first[here], (int) code.second[here]);
            } else if (op < OBJECT + FIRST_OF_KIND) {
                doArray(op - OBJECT, code.first[here], (int) code.second[here]);
            } else {
                doKind(op - OBJECT, code.first[here]);
            }
        }

        private boolean spendTurn() {
            if (turns == 0) {
                trap = TRAP_TURNS;
                return false;
            }
            turns--;
            return true;
        }

        private void enter(int called) {
            if (!spendTurn()) {
                return;
            }
            if (depth == CALLS_MOST) {
                trap = TRAP_DEPTH;
                return;
            }
            function[depth] = called;
            base[depth] = values.top - types.members[module.functions.kind[called]];
            back[depth] = next;
            floor = base[depth] + module.functions.second[called];
            next = module.functions.first[called] + 1;
            depth++;
        }

        private void leave() {
            depth--;
            values.slide(types.results[module.functions.kind[function[depth]]], base[depth]);
            next = back[depth];
            if (depth > 0) {
                floor = base[depth - 1] + module.functions.second[function[depth - 1]];
            }
        }

        private void branch(int block) {
            int op = code.op[block];
            if (op == BODY) {
                leave();
                return;
            }
            if (op == LOOP && !spendTurn()) {
                return;
            }
            values.slide((int) code.second[block], floor + code.height[block]);
            next = 1 + (op == LOOP ? block : code.endOf(block));
        }

        private void doControl(int op, int here) {
            switch (op) {
                case TRAP -> trap = TRAP_TOLD;
                case LOCALS -> values.pushZeros(code.first[here]);
                case IF -> {
                    if (values.pop() == 0) {
                        next = code.mate[here] + 1;
                    }
                }
                case ELSE -> next = code.mate[here] + 1;
                case BODY_END, RETURN -> leave();
                case BRANCH -> branch(code.mate[here]);
                case BRANCH_IF -> {
                    if (values.pop() != 0) {
                        branch(code.mate[here]);
                    }
                }
                case BRANCH_BY_ROW -> {
                    long way = Math.min(values.pop() & 0xffffffffL, code.second[here]);
                    branch(code.numbers[code.first[here] + (int) way]);
                }
                default -> {
                }
            }
        }

        private void doSimple(int op, int number) {
            switch (op) {
                case CALL -> enter(number);
                case CALL_BY_TABLE -> enterByTable(number);
                case DROP -> values.pop();
                case CHOOSE -> {
                    long which = values.pop();
                    long other = values.pop();
                    if (which == 0) {
                        values.pop();
                        values.push(other);
                    }
                }
                case GET_LOCAL -> values.pushFrom(values, base[depth - 1] + number);
                case SET_LOCAL, KEEP_LOCAL -> {
                    values.copy(values, values.top - 1, base[depth - 1] + number);
                    values.top -= op == SET_LOCAL ? 1 : 0;
                }
                case GET_GLOBAL -> values.pushFrom(globals, number);
                default -> {
                    globals.copy(values, values.top - 1, number);
                    values.top--;
                }
            }
        }

        private void enterByTable(int type) {
            long place = values.pop() & 0xffffffffL;
            if (place >= module.tablePlaces()) {
                trap = TRAP_TABLE;
                return;
            }
            int called = table[(int) place];
            if (called == NONE) {
                trap = TRAP_NOTHING_THERE;
            } else if (types.like[module.functions.kind[called]] != types.like[type]) {
                trap = TRAP_OTHER_TYPE;
            } else {
                enter(called);
            }
        }

        private void doMemory(int op, long offset) {
            if (op == COUNT_PAGES) {
                values.push(memory.pages);
                return;
            }
            if (op == GROW) {
                values.push(memory.grow(values.pop() & 0xffffffffL));
                return;
            }
            boolean stores = op >= Memory.FIRST_STORE;
            int width = Memory.width(op);
            long value = stores ? values.pop() : 0;
            long address = (values.pop() & 0xffffffffL) + offset;
            if (!memory.holds(address, width)) {
                trap = TRAP_MEMORY;
            } else if (stores) {
                memory.put((int) address, width, value);
            } else {
                /* The even ones are those with a sign; i32 as a whole is among them. */
                value = memory.taken((int) address, width);
                values.push((op & 1) == 0 ? Numbers.signed(value, 8 * width) : value);
            }
        }

        private void doNumeric(int op) {
            if (op == 0x45 || op == 0x50) {
                values.pushTruth(values.pop() == 0);
            } else if (op <= 0x5a) {
                long b = values.pop();
                values.pushTruth(Numbers.holds(op < 0x50 ? op - 0x46 : op - 0x51, values.pop(), b));
            } else if (op <= 0x69) {
                values.push(Numbers.counted32(op, (int) values.pop()));
            } else if (op <= 0x78) {
                compute32(op - 0x6a);
            } else if (op <= 0x7b) {
                values.push(Numbers.counted64(op, values.pop()));
            } else if (op <= 0x8a) {
                compute64(op - 0x7c);
            } else {
                convert(op);
            }
        }

        private void compute32(int operation) {
            int b = (int) values.pop();
            int a = (int) values.pop();
            trap = Numbers.trapOf(operation, a, b, Numbers.LEAST_32);
            if (trap == 0) {
                values.push(Numbers.answer32(operation, a, b));
            }
        }

        private void compute64(int operation) {
            long b = values.pop();
            long a = values.pop();
            trap = Numbers.trapOf(operation, a, b, Numbers.LEAST_64);
            if (trap == 0) {
                values.push(Numbers.answer64(operation, a, b));
            }
        }

        private void convert(int op) {
            long a = values.pop();
            values.push(switch (op) {
                case 0xa7, 0xc4 -> (int) a;
                case 0xac -> a;
                case 0xad -> a & 0xffffffffL;
                case 0xc0, 0xc2 -> Numbers.signed(a, 8);
                default -> Numbers.signed(a, 16);
            });
        }

        private void doReference(int op, int here) {
            switch (op) {
                case NULL_VALUE -> values.pushReference(0);
                case IS_NULL -> values.pushTruth(values.pop() == 0);
                case SAME_REFERENCE -> values.pushTruth(values.pop() == values.pop());
                case NOT_NULL -> {
                    if (values.value[values.top - 1] == 0) {
                        trap = TRAP_NULL;
                    }
                }
                case BRANCH_ON_NULL -> {
                    if (values.value[values.top - 1] == 0) {
                        values.pop();
                        branch(code.mate[here]);
                    }
                }
                default -> {
                    if (values.value[values.top - 1] == 0) {
                        values.pop();
                    } else {
                        branch(code.mate[here]);
                    }
                }
            }
        }

        private void setCell(int cell, int part, int from) {
            heap.cells.copy(values, from, cell);
            if (part == Types.BITS8) {
                heap.cells.value[cell] &= 0xff;
            } else if (part == Types.BITS16) {
                heap.cells.value[cell] &= 0xffff;
            }
        }

        private void pushCell(int cell, int part, boolean signed) {
            values.pushFrom(heap.cells, cell);
            if (signed) {
                values.push(Numbers.signed(values.pop(), part == Types.BITS8 ? 8 : 16));
            }
        }

        private void doStructure(int op, int type, int field) {
            if (op <= 1) {
                makeStructure(type, types.members[type], op == 0);
                return;
            }
            int lowest = op == 5 ? values.top - 2 : values.top - 1;
            int handle = (int) values.value[lowest];
            if (handle == 0) {
                trap = TRAP_NULL;
                return;
            }
            int cell = heap.cellOf(handle, field);
            int part = types.member(type, field);
            if (op == 5) {
                setCell(cell, part, lowest + 1);
            }
            values.top = lowest;
            if (op != 5) {
                pushCell(cell, part, op == 3);
            }
        }

        private void makeStructure(int type, int count, boolean told) {
            int handle = heap.make(types.like[type], count, values, globals);
            if (handle == 0) {
                trap = TRAP_ROOM;
                return;
            }
            if (told) {
                values.top -= count;
                for (int k = 0; k < count; k++) {
                    setCell(heap.cellOf(handle, k), types.member(type, k), values.top + k);
                }
            }
            values.pushReference(handle);
        }

        private void doArray(int op, int type, int count) {
            switch (op) {
                case 6, 7 -> makeArray(type, op == 6);
                case 8 -> makeArrayOf(type, count);
                case 15 -> {
                    int handle = (int) values.pop();
                    if (handle == 0) {
                        trap = TRAP_NULL;
                    } else {
                        values.push(heap.size[handle]);
                    }
                }
                case 16 -> setElements(type, values.top - 4, values.value[values.top - 1] & 0xffffffffL);
                case 14 -> setElements(type, values.top - 3, 1);
                default -> pushElement(type, op == 12);
            }
        }

        private void makeArray(int type, boolean told) {
            long count = values.value[values.top - 1] & 0xffffffffL;
            int handle = heap.make(types.like[type], count, values, globals);
            if (handle == 0) {
                trap = TRAP_ROOM;
                return;
            }
            values.top--;
            if (told) {
                values.top--;
                for (int k = 0; k < count; k++) {
                    setCell(heap.cellOf(handle, k), types.member(type, 0), values.top);
                }
            }
            values.pushReference(handle);
        }

        private void makeArrayOf(int type, int count) {
            int handle = heap.make(types.like[type], count, values, globals);
            if (handle == 0) {
                trap = TRAP_ROOM;
                return;
            }
            values.top -= count;
            for (int k = 0; k < count; k++) {
                setCell(heap.cellOf(handle, k), types.member(type, 0), values.top + k);
            }
            values.pushReference(handle);
        }

        /* Whether the array and the index that lie there have so many elements; else there is a trap. */
        private boolean hasElements(int lowest, long count) {
            int handle = (int) values.value[lowest];
            if (handle == 0) {
                trap = TRAP_NULL;
            } else if ((values.value[lowest + 1] & 0xffffffffL) + count > heap.size[handle]) {
                trap = TRAP_ELEMENT;
            }
            return trap == 0;
        }

        private void setElements(int type, int lowest, long count) {
            if (hasElements(lowest, count)) {
                int cell = heap.cellOf((int) values.value[lowest], (int) values.value[lowest + 1]);
                for (int k = 0; k < count; k++) {
                    setCell(cell + k, types.member(type, 0), lowest + 2);
                }
            }
            values.top = lowest;
        }

        private void pushElement(int type, boolean signed) {
            int lowest = values.top - 2;
            if (hasElements(lowest, 1)) {
                int cell = heap.cellOf((int) values.value[lowest], (int) values.value[lowest + 1]);
                values.top = lowest;
                pushCell(cell, types.member(type, 0), signed);
            }
        }

        private void doKind(int op, int target) {
            int given = (int) values.value[values.top - 1];
            if (op == 28) {
                values.top--;
                values.pushReference(given | Numbers.LEAST_32);
            } else if (op > 28) {
                values.top--;
                if (given == 0) {
                    trap = TRAP_NULL;
                }
                values.push(op == 29 ? given << 1 >> 1 : given & Numbers.MOST_32);
            } else {
                boolean isThat = given == 0 ? (op & 1) == 1 : isOf(given, target);
                if (op < 22) {
                    values.top--;
                    values.pushTruth(isThat);
                } else if (!isThat) {
                    trap = TRAP_CAST;
                }
            }
        }

        private boolean isOf(int reference, int target) {
            if (target == Types.ANYTHING) {
                return true;
            }
            if (target == Types.SMALL) {
                return reference < 0;
            }
            return reference > 0 && heap.kind[reference] == types.like[target - Types.FIRST];
        }
    }
}

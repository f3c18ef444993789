import java.util.ArrayList;
import java.util.Arrays;
import java.util.List;

/** The boundary cases of promise 3 in what is read: numbers, sections, rows, and which error is told. */
public final class EdgesOfReadTest {
    private static final int[] NOTHING = {};

    public static void main(String[] args) {
        everyNumberOfAWholeModule();
        everyCutOfAWholeModule();
        everySectionsEnd();
        greatestAndLeastNumbers();
        bytesAreNoNumbers();
        sectionNumbers();
        sectionOrder();
        sectionZero();
        rowsOfParts();
        rowsOfMembers();
        rowsTooLongAreReadAllTheSame();
        rowsWithoutABound();
        targetsInTypes();
        valueTypes();
        flags();
        limits();
        firstValues();
        exportedThings();
        exportedNames();
        namesOfOtherLengths();
        theFunctionThatIsCalledFirst();
        codeForFunctions();
        locals();
        endsOfBodies();
        elsesAndEnds();
        refusedOrMalformed();
        whichErrorIsTold();
        Support.end();
    }

    private static void due(String what, long got, long want) {
        Support.due(what, got, want);
    }

    private static int[] b(Object... parts) {
        return Support.b(parts);
    }

    private static int[] section(int number, Object... parts) {
        return Support.section(number, parts);
    }

    private static int loaded(Object... sections) {
        return Support.loaded(Support.HEAD, Support.b(sections));
    }

    private static int body(Object... code) {
        return Support.one(NOTHING, NOTHING, code).loaded();
    }

    /** A module in which each number knows its place, so that one of them can be written otherwise. */
    private static final class Whole {
        private static final int AS_IT_IS = 0;
        private static final int LONGEST = 1;
        private static final int TOO_LONG = 2;
        private static final int TOO_GREAT = 3;
        private static final int GREATEST = 4;

        private final int place;
        private final int form;
        private int seen = 0;
        /* What the load must answer if the number of the place is the greatest that can be written. */
        private int ofGreatest = 0;

        Whole(int place, int form) {
            this.place = place;
            this.form = form;
        }

        private boolean here() {
            seen++;
            return seen - 1 == place;
        }

        private int[] u(int value, int greatest) {
            if (!here()) {
                return Support.u(value);
            }
            ofGreatest = greatest;
            return switch (form) {
                case LONGEST -> b(value & 0x7f | 0x80, value >> 7 & 0x7f | 0x80, 0x80, 0x80, 0x00);
                case TOO_LONG -> b(value & 0x7f | 0x80, value >> 7 & 0x7f | 0x80, 0x80, 0x80, 0x80, 0x00);
                case TOO_GREAT -> b(value & 0x7f | 0x80, value >> 7 & 0x7f | 0x80, 0x80, 0x80, 0x10);
                case GREATEST -> b(0xff, 0xff, 0xff, 0xff, 0x0f);
                default -> Support.u(value);
            };
        }

        /* A number that is not there, if it is the greatest. */
        private int[] u(int value) {
            return u(value, -2);
        }

        /* How many follow: the greatest goes on behind the end. */
        private int[] n(int value) {
            return u(value, -1);
        }

        private int[] signed(int value, int[] highest, int[] over, int greatest) {
            if (!here()) {
                return Support.s(value);
            }
            ofGreatest = greatest;
            int[] filled = Support.many(highest.length - 1, 0x80);
            filled[0] = value & 0x7f | 0x80;
            return switch (form) {
                case LONGEST -> b(filled, 0x00);
                case TOO_LONG -> b(filled, 0x80, 0x00);
                case TOO_GREAT -> over;
                case GREATEST -> highest;
                default -> Support.s(value);
            };
        }

        private int[] s32(int value, int greatest) {
            return signed(value, b(0xff, 0xff, 0xff, 0xff, 0x07), b(0x80, 0x80, 0x80, 0x80, 0x08), greatest);
        }

        private int[] s33(int value) {
            return signed(value, b(0xff, 0xff, 0xff, 0xff, 0x0f), b(0x80, 0x80, 0x80, 0x80, 0x10), -2);
        }

        private int[] s64(int value) {
            return signed(value, b(Support.many(9, 0xff), 0x00), b(Support.many(9, 0x80), 0x01), 0);
        }

        private int[] part(int number, Object... parts) {
            int[] content = b(parts);
            return b(number, n(content.length), content);
        }

        private int[] body(Object... parts) {
            int[] content = b(b(parts), 0x0b);
            return b(n(content.length), content);
        }

        private int[] types() {
            return part(1, n(5),
                    0x60, n(2), 0x7f, 0x7e, n(1), 0x7f,
                    0x5f, n(3), 0x78, 1, 0x63, s33(1), 1, 0x77, 0,
                    0x5e, 0x64, s33(1), 0,
                    0x60, n(0), n(0),
                    0x5e, 0x7f, 1);
        }

        private int[] parts() {
            return b(part(3, n(2), u(0), u(3)),
                    part(4, n(1), 0x70, 1, u(2), u(3, 0)),
                    part(5, n(1), 1, u(1), u(2, 0)),
                    part(6, n(3), 0x7f, 1, 0x41, s32(7, 0), 0x0b, 0x7e, 0, 0x42, s64(8), 0x0b, 0x63, s33(1), 1, 0xd0, s33(1), 0x0b),
                    part(7, n(4), n(1), 'a', 0, u(0), n(2), 'a', 'b', 1, u(0), n(0), 2, u(0), n(1), 'g', 3, u(2)),
                    part(8, u(1)),
                    part(9, n(1), 0, 0x41, s32(0, 5), 0x0b, n(2), u(0), u(1)));
        }

        private int[] simple() {
            return b(0x02, s33(3), 0x0b, 0x41, s32(1, 0), 0x1a, 0x42, s64(1), 0x1a,
                    0x02, 0x40, 0x0c, u(0), 0x0b, 0x41, 0, 0x41, 0, 0x0d, u(0), 0x1a,
                    0x02, 0x40, 0x41, 0, 0x0e, n(2), u(0), u(0), u(0), 0x0b,
                    0x10, u(1), 0x41, 1, 0x11, u(3), u(0),
                    0x20, u(0), 0x21, u(0), 0x20, u(0), 0x22, u(0), 0x1a, 0x23, u(0), 0x24, u(0),
                    0x41, 0, 0x28, u(2), u(5, 0), 0x1a, 0x41, 0, 0x42, 0, 0x37, u(3), u(6, 0));
        }

        private int[] ofReferences() {
            return b(0xd0, s33(1), 0x1a, 0x02, 0x40, 0xd0, s33(1), 0xd5, u(0), 0x1a, 0x0b,
                    0x02, 0x6d, 0xd0, 0x6d, 0xd6, u(0), 0xd0, 0x6d, 0x0b, 0x1a,
                    0x02, 0x63, s33(1), 0xd0, s33(1), 0x0b, 0x1a,
                    0x41, 0, 0xd0, 1, 0x41, 0, 0xfb, n(0), u(1), 0x1a, 0xfb, n(1), u(1), 0x1a,
                    0xd0, 1, 0xfb, n(2), u(1), u(1), 0x1a, 0xd0, 1, 0xfb, n(3), u(1), u(0), 0x1a, 0xd0, 1, 0xfb, n(4), u(1), u(2), 0x1a,
                    0xd0, 1, 0x41, 0, 0xfb, n(5), u(1), u(0),
                    0x41, 0, 0x41, 0, 0xfb, n(6), u(4), 0x1a, 0x41, 0, 0xfb, n(7), u(4), 0x1a, 0x41, 0, 0xfb, n(8), u(4), u(1), 0x1a,
                    0xd0, 4, 0x41, 0, 0xfb, n(11), u(4), 0x1a, 0xd0, 4, 0x41, 0, 0x41, 0, 0xfb, n(14), u(4), 0xd0, 4, 0xfb, n(15), 0x1a,
                    0xd0, 4, 0x41, 0, 0x41, 0, 0x41, 0, 0xfb, n(16), u(4),
                    0xd0, 4, 0xfb, n(20), s33(4), 0x1a, 0xd0, 4, 0xfb, n(21), s33(4), 0x1a,
                    0xd0, 4, 0xfb, n(22), s33(4), 0x1a, 0xd0, 4, 0xfb, n(23), s33(4), 0x1a,
                    0x41, 0, 0xfb, n(28), 0xfb, n(29), 0x1a, 0x41, 0, 0xfb, n(28), 0xfb, n(30), 0x1a);
        }

        private int[] rest() {
            return b(part(10, n(2), body(n(2), u(1), 0x7f, u(2), 0x63, s33(1), simple(), ofReferences(), 0x41, 0), body(n(0))),
                    part(11, n(1), 0, 0x41, s32(0, 2), 0x0b, n(3), 1, 2, 3));
        }

        int[] bytes() {
            return b(Support.HEAD, types(), parts(), rest());
        }
    }

    /*
     * "at most 5 bytes, below 2^32 (else MALFORMED; more bytes than needed are good, also of the
     * signed ones)", "at most 5, 5, 10 bytes, and within 32, 33, 64 bits (else malformed)": for
     * every number that stands in a module.
     */
    private static void everyNumberOfAWholeModule() {
        Whole plain = new Whole(-1, Whole.AS_IT_IS);
        due("the whole module", Support.loaded(plain.bytes()), 0);
        due("numbers in it", plain.seen, 128);
        for (int place = 0; place < plain.seen; place++) {
            due("with more bytes than needed, place " + place, Support.loaded(new Whole(place, Whole.LONGEST).bytes()), 0);
            due("one byte too long, place " + place, Support.loaded(new Whole(place, Whole.TOO_LONG).bytes()), -1);
            due("too great, place " + place, Support.loaded(new Whole(place, Whole.TOO_GREAT).bytes()), -1);
            Whole greatest = new Whole(place, Whole.GREATEST);
            due("the greatest, place " + place, Support.loaded(greatest.bytes()), greatest.ofGreatest);
        }
    }

    private static List<Integer> sectionStarts(int[] module) {
        List<Integer> starts = new ArrayList<>();
        int next = 8;
        while (next < module.length) {
            starts.add(next);
            int size = module[next + 1] & 0x7f;
            int head = 2;
            if (module[next + 1] >= 0x80) {
                size |= module[next + 2] << 7;
                head = 3;
            }
            next += head + size;
        }
        starts.add(next);
        return starts;
    }

    /* "an end that is not where it must be": but between two sections no cut can be read as a module. */
    private static void everyCutOfAWholeModule() {
        int[] module = new Whole(-1, Whole.AS_IT_IS).bytes();
        List<Integer> starts = sectionStarts(module);
        for (int cut = 0; cut < module.length; cut++) {
            int got = Support.loaded(Arrays.copyOf(module, cut));
            if (starts.contains(cut)) {
                due("cut between sections at " + cut + " can be read", got == -1 ? 1 : 0, 0);
            } else {
                due("cut at " + cut, got, -1);
            }
        }
    }

    /* "their content must be used up just to its end". */
    private static void everySectionsEnd() {
        int[] module = new Whole(-1, Whole.AS_IT_IS).bytes();
        List<Integer> starts = sectionStarts(module);
        for (int k = 0; k + 1 < starts.size(); k++) {
            int at = starts.get(k) + 1;
            int[] shorter = module.clone();
            shorter[at]--;
            due("a section that says one byte less, " + module[at - 1], Support.loaded(shorter), -1);
            int[] longer = module.clone();
            longer[at]++;
            due("a section that says one byte more, " + module[at - 1], Support.loaded(longer), -1);
            int[] before = Arrays.copyOf(longer, starts.get(k + 1));
            int[] more = b(before, 0, Arrays.copyOfRange(module, starts.get(k + 1), module.length));
            due("a section with a byte more than it needs, " + module[at - 1], Support.loaded(more), -1);
        }
    }

    private static long globalOf(int type, int... instruction) {
        Support.Mod mod = new Support.Mod();
        mod.global(b(type), 0, instruction);
        mod.export('g', 3, 0);
        Support.House house = mod.house();
        return house.loaded == 0 ? house.x.global(0) : 1000 + house.loaded;
    }

    /* "signed likewise, the last byte's bit 6 above it". */
    private static void greatestAndLeastNumbers() {
        due("S32 of 63", globalOf(0x7f, 0x41, 0x3f), 63);
        due("S32 of -64", globalOf(0x7f, 0x41, 0x40), -64);
        due("S32 of -1", globalOf(0x7f, 0x41, 0x7f), -1);
        due("S32 of 64", globalOf(0x7f, 0x41, 0xc0, 0x00), 64);
        due("S32 of -65", globalOf(0x7f, 0x41, 0xbf, 0x7f), -65);
        due("S32 of -1 in five bytes", globalOf(0x7f, 0x41, 0xff, 0xff, 0xff, 0xff, 0x7f), -1);
        due("the greatest S32", globalOf(0x7f, 0x41, 0xff, 0xff, 0xff, 0xff, 0x07), Integer.MAX_VALUE);
        due("one more", globalOf(0x7f, 0x41, 0x80, 0x80, 0x80, 0x80, 0x08), 999);
        due("the least S32", globalOf(0x7f, 0x41, 0x80, 0x80, 0x80, 0x80, 0x78), Integer.MIN_VALUE);
        due("one less", globalOf(0x7f, 0x41, 0xff, 0xff, 0xff, 0xff, 0x77), 999);
        due("bits that are not the sign's", globalOf(0x7f, 0x41, 0x80, 0x80, 0x80, 0x80, 0x40), 999);
        due("four bytes are within", globalOf(0x7f, 0x41, 0xff, 0xff, 0xff, 0x3f), 0x7ffffff);
        due("the greatest S64", globalOf(0x7e, b(0x42, Support.many(9, 0xff), 0x00)), Long.MAX_VALUE);
        due("one more, of S64", globalOf(0x7e, b(0x42, Support.many(9, 0x80), 0x01)), 999);
        due("the least S64", globalOf(0x7e, b(0x42, Support.many(9, 0x80), 0x7f)), Long.MIN_VALUE);
        due("one less, of S64", globalOf(0x7e, b(0x42, Support.many(9, 0xff), 0x7e)), 999);
        due("S64 of -1 in ten bytes", globalOf(0x7e, b(0x42, Support.many(9, 0xff), 0x7f)), -1);
        due("S64 of 0 in ten bytes", globalOf(0x7e, b(0x42, Support.many(9, 0x80), 0x00)), 0);
        due("S64 in eleven bytes", globalOf(0x7e, b(0x42, Support.many(10, 0x80), 0x00)), 999);
        due("nine bytes are within", globalOf(0x7e, b(0x42, Support.many(8, 0xff), 0x3f)), 0x3fffffffffffffffL);
        due("nine bytes below 0", globalOf(0x7e, b(0x42, Support.many(8, 0x80), 0x40)), 0xc000000000000000L);
        for (int last : new int[] {0x02, 0x3f, 0x40, 0x41, 0x7d}) {
            due("a tenth byte " + last, globalOf(0x7e, b(0x42, Support.many(9, 0x80), last)), 999);
        }
        belowZero();
    }

    /* "S33, not below 0 (else malformed)". */
    private static void belowZero() {
        int[][] numbers = {b(0x7d), b(0x41), b(0xff, 0x7f), b(0xed, 0x7f), b(0xc0, 0x7f), b(0x80, 0x80, 0x80, 0x80, 0x70), b(0xff, 0xff, 0xff, 0xff, 0x7f), b(0xff, 0xff, 0xff, 0xff, 0x6f), b(0x80, 0x80, 0x80, 0x80, 0x60)};
        for (int[] number : numbers) {
            due("a target in a type", loaded(section(1, 1, 0x5e, 0x63, number, 0)), -1);
            due("a target of what is not null", loaded(section(1, 1, 0x5e, 0x64, number, 0)), -1);
            due("a null's target", body(0xd0, number, 0x1a), -1);
            due("a cast's target", body(0xd0, 0x6d, 0xfb, 22, number, 0x1a), -1);
            due("a block type", body(0x02, number, 0x0b), -1);
        }
        due("the least block type is a type", body(0x02, 0x00, 0x0b), 0);
    }

    /* Where a byte must stand, the same in two bytes, as a U could be, can't be read. */
    private static void bytesAreNoNumbers() {
        int[] head = Arrays.copyOfRange(Support.HEAD, 1, 8);
        due("the first byte", Support.loaded(b(0x80, 0x00, head)), -1);
        due("the last byte", Support.loaded(b(Arrays.copyOf(Support.HEAD, 7), 0x80, 0x00)), -1);
        due("a section's number", loaded(0x81, 0x00, 1, 0), -1);
        due("section 0", loaded(0x80, 0x00, 1, 0), -1);
        due("a type's kind", loaded(section(1, 1, 0xe0, 0x00, 0, 0)), -1);
        due("a parameter", loaded(section(1, 1, 0x60, 1, 0xff, 0x00, 0)), -1);
        due("a field", loaded(section(1, 1, 0x5f, 1, 0xff, 0x00, 0)), -1);
        due("8 bits", loaded(section(1, 1, 0x5f, 1, 0xf8, 0x00, 0)), -1);
        due("a field's flag", loaded(section(1, 1, 0x5f, 1, 0x7f, 0x80, 0x00)), -1);
        due("a field that can be set", loaded(section(1, 1, 0x5f, 1, 0x7f, 0x81, 0x00)), -1);
        due("a table's kind", loaded(section(4, 1, 0xf0, 0x00, 0, 1)), -1);
        due("limits", loaded(section(5, 1, 0x80, 0x00, 1)), -1);
        due("a global's flag", loaded(section(6, 1, 0x7f, 0x80, 0x00, 0x41, 0, 0x0b)), -1);
        due("a global's instruction", loaded(section(6, 1, 0x7f, 0, 0xc1, 0x00, 0, 0x0b)), -1);
        due("a global's end", loaded(section(6, 1, 0x7f, 0, 0x41, 0, 0x8b, 0x00)), -1);
        due("an export's kind", export(1, 1, 'a', 0x80, 0x00, 0), -1);
        due("a null's target", body(0xd0, 0xed, 0x00, 0x1a), -2);
        due("an instruction", body(0x81, 0x00), -2);
        due("a block type of nothing", body(0x02, 0xc0, 0x00, 0x0b), -2);
    }

    /* "Number 0 .. The others: 1, 3 to 11 (any other number is malformed)". */
    private static void sectionNumbers() {
        for (int number = 0; number < 256; number++) {
            boolean good = number <= 11 && number != 2;
            due("section " + number, loaded(section(number, 0)), !good ? -1 : number == 8 ? -2 : 0);
        }
    }

    /* "each at most once, in rising order". */
    private static void sectionOrder() {
        int[] numbers = {1, 3, 4, 5, 6, 7, 9, 10, 11};
        for (int first : numbers) {
            for (int second : numbers) {
                due(first + ", then " + second, loaded(section(first, 0), section(second, 0)), second > first ? 0 : -1);
                due(first + ", 0, then " + second, loaded(section(first, 0), section(0, 9), section(second, 0)), second > first ? 0 : -1);
            }
            due(first + " and the start", loaded(section(first, 0), section(8, 0)), first < 8 ? -2 : -1);
            due("the start and " + first, loaded(section(8, 0), section(first, 0)), first > 8 ? -2 : -1);
        }
        due("the start twice", loaded(section(8, 0), section(8, 0)), -1);
    }

    /* "Number 0: any content, anywhere, passed over." */
    private static void sectionZero() {
        int[] other = section(0, 0xff, 0xff, 0xff, 0xff, 0xff, 0xff);
        int[] module = new Whole(-1, Whole.AS_IT_IS).bytes();
        int[] all = Arrays.copyOf(module, 8);
        List<Integer> starts = sectionStarts(module);
        for (int k = 0; k + 1 < starts.size(); k++) {
            all = b(all, other, section(0), Arrays.copyOfRange(module, starts.get(k), starts.get(k + 1)));
        }
        due("at every place", Support.loaded(all, other, other, section(0)), 0);
        due("of no bytes, alone", loaded(0, 0), 0);
        due("its last byte is not there", loaded(0, 1), -1);
        due("of 300 bytes", loaded(section(0, Support.many(300, 0x0b))), 0);
        due("one of 300 is not there", loaded(0, 0xac, 0x02, Support.many(299, 0x0b)), -1);
    }

    private static int[] oneFunction() {
        return b(section(1, 1, 0x60, 0, 0), section(3, 1, 0));
    }

    private static int partsOf(int number, int count) {
        int[] type = section(1, 1, 0x60, 0, 0);
        int[] body = section(10, 1, 2, 0, 0x0b);
        int[] names = {};
        for (int k = 0; k < count; k++) {
            names = b(names, 1, k, 0, 0);
        }
        return switch (number) {
            case 1 -> loaded(section(1, count, Support.many(count, 0x60, 0, 0)));
            case 3 -> loaded(type, section(3, count, Support.many(count, 0)), section(10, count, Support.many(count, 2, 0, 0x0b)));
            case 6 -> loaded(section(6, count, Support.many(count, 0x7f, 0, 0x41, 0, 0x0b)));
            case 7 -> loaded(oneFunction(), section(7, count, names), body);
            case 9 -> loaded(oneFunction(), section(4, 1, 0x70, 0, 1), section(9, count, Support.many(count, 0, 0x41, 0, 0x0b, 1, 0)), body);
            default -> loaded(section(5, 1, 0, 1), section(11, count, Support.many(count, 0, 0x41, 0, 0x0b, 1, 9)));
        };
    }

    /* "A row has at most 64 of types, functions, globals, exports, elements, data". */
    private static void rowsOfParts() {
        for (int number : new int[] {1, 3, 6, 7, 9, 11}) {
            for (int count : new int[] {0, 1, 63, 64, 65, 66, 100, 127}) {
                due(count + " in section " + number, partsOf(number, count), count <= 64 ? 0 : -2);
            }
        }
        due("no table", loaded(section(4, 0)), 0);
        due("one table", loaded(section(4, 1, 0x70, 0, 1)), 0);
        for (int count : new int[] {2, 3, 64, 65, 66, 100}) {
            due(count + " tables", loaded(section(4, count, Support.many(count, 0x70, 0, 1))), -2);
            due(count + " memories", loaded(section(5, count, Support.many(count, 0, 1))), -2);
        }
        due("no memory", loaded(section(5, 0)), 0);
        due("one memory", loaded(section(5, 1, 0, 1)), 0);
    }

    /* "16 fields, parameters or results". */
    private static void rowsOfMembers() {
        for (int count : new int[] {0, 1, 15, 16, 17, 18, 33, 34, 100}) {
            int want = count <= 16 ? 0 : -2;
            due(count + " fields", loaded(section(1, 1, 0x5f, count, Support.many(count, 0x7f, 1))), want);
            due(count + " parameters", loaded(section(1, 1, 0x60, count, Support.many(count, 0x7f), 0)), want);
            due(count + " results", loaded(section(1, 1, 0x60, 0, count, Support.many(count, 0x7f))), want);
            due(count + " of both", loaded(section(1, 1, 0x60, count, Support.many(count, 0x7f), count, Support.many(count, 0x7f))), want);
            int[] last = section(1, 64, Support.many(63, 0x5f, 0), 0x5f, count, Support.many(count, 0x7f, 1));
            due(count + " fields of the 64th", loaded(last), want);
        }
    }

    /* "rows too long, which are read all the same". */
    private static void rowsTooLongAreReadAllTheSame() {
        int[] fields = Support.many(17, 0x7f, 1);
        due("a 17th field that can't be read", loaded(section(1, 1, 0x5f, 17, Support.many(16, 0x7f, 1), 0x7d, 1)), -1);
        due("a 17th flag that can't be read", loaded(section(1, 1, 0x5f, 17, Support.many(16, 0x7f, 1), 0x7f, 2)), -1);
        due("a 17th parameter that can't be read", loaded(section(1, 1, 0x60, 17, Support.many(16, 0x7f), 0x7d, 0)), -1);
        due("a 17th result that can't be read", loaded(section(1, 1, 0x60, 0, 17, Support.many(16, 0x7f), 0x7d)), -1);
        due("17 fields, then a section out of order", loaded(section(1, 1, 0x5f, 17, fields), section(1, 0)), -1);
        due("17 fields, then what is refused", loaded(section(1, 2, 0x60, 0, 0, 0x5f, 17, fields), section(3, 1, 0), section(10, 1, 3, 0, 0xfd, 0x0b)), -3);
        due("65 types, the last can't be read", loaded(section(1, 65, Support.many(64, 0x5f, 0), 0x5d)), -1);
        due("65 functions, the last can't be read", loaded(section(3, 65, Support.many(64, 0), 0x80)), -1);
        due("a second table that can't be read", loaded(section(4, 2, 0x70, 0, 1, 0x6f, 0, 1)), -1);
        due("a second memory that can't be read", loaded(section(5, 2, 0, 1, 2, 1)), -1);
        due("65 globals, the last can't be read", loaded(section(6, 65, Support.many(64, 0x7f, 0, 0x41, 0, 0x0b), 0x7f, 0, 0x41, 0, 0x0c)), -1);
        due("65 exports, the last can't be read", loaded(section(7, 65, Support.many(64, 0, 0, 0), 0, 4, 0)), -1);
        due("65 elements, the last can't be read", loaded(section(9, 65, Support.many(64, 0, 0x41, 0, 0x0b, 0), 1, 0x41, 0, 0x0b, 0)), -1);
        due("65 data, the last can't be read", loaded(section(11, 65, Support.many(64, 0, 0x41, 0, 0x0b, 0), 0, 0x41, 0, 0x0b, 1)), -1);
        due("a 65th type of 100 fields", loaded(section(1, 65, Support.many(64, 0x5f, 0), 0x5f, 100, Support.many(100, 0x78, 1))), -2);
        due("a 66th type of 100 parameters and results", loaded(section(1, 66, Support.many(65, 0x5f, 0), 0x60, 100, Support.many(100, 0x7f), 100, Support.many(100, 0x7f))), -2);
        due("201 locals, then what can't be read", loaded(oneFunction(), section(10, 1, 6, 1, 0xc9, 0x01, 0x7f, 0x06, 0x0b)), -1);
        due("201 locals, then what is refused", loaded(oneFunction(), section(10, 1, 6, 1, 0xc9, 0x01, 0x7f, 0x43, 0x0b)), -3);
    }

    /* "(what stands in an element, or in data, has no bound of its own)". */
    private static void rowsWithoutABound() {
        int[] body = section(10, 1, 2, 0, 0x0b);
        for (int count : new int[] {64, 65, 300}) {
            int[] functions = b(0, 0x41, 0, 0x0b, Support.u(count), Support.many(count, 0));
            int want = count <= 64 ? 0 : 5;
            due(count + " in an element", loaded(oneFunction(), section(4, 1, 0x70, 0, 64), section(9, 1, functions), body), want);
        }
        for (int count : new int[] {64, 65, 4095, 4096, 4097}) {
            int[] data = section(11, 1, 0, 0x41, 0, 0x0b, Support.u(count), Support.many(count, 7));
            due(count + " bytes of data", loaded(section(5, 1, 0, 1), data), count <= 4096 ? 0 : 2);
        }
        due("a name of 1000 bytes", loaded(section(5, 1, 0, 1), section(7, 1, 0xe8, 0x07, Support.many(1000, 1), 2, 0)), 0);
        due("300 ways", body(0x41, 0, 0x0e, 0xac, 0x02, Support.many(300, 0), 0), 0);
        due("300 groups of locals", loaded(oneFunction(), section(10, 1, Support.u(603), 0xac, 0x02, Support.many(300, 0, 0x7f), 0x0b)), 0);
    }

    /* "the number of a structure's or array's type, not greater than that of the type that it stands in". */
    private static void targetsInTypes() {
        for (int mark : new int[] {0x63, 0x64}) {
            for (int own = 0; own < 64; own += 21) {
                int[] before = Support.many(own, 0x5f, 0);
                int[] behind = Support.many(63 - own, 0x5f, 0);
                for (int target : new int[] {0, own, own + 1, 63, 64, 65}) {
                    int want = target <= own ? 0 : -2;
                    int[] number = Support.s(target);
                    due("a field of " + own + " to " + target, loaded(section(1, 64, before, 0x5f, 1, mark, number, 0, behind)), want);
                    due("an element of " + own + " to " + target, loaded(section(1, 64, before, 0x5e, mark, number, 0, behind)), want);
                    int ofFunction = target < own ? 0 : -2;
                    due("a parameter of " + own + " to " + target, loaded(section(1, 64, before, 0x60, 1, mark, number, 0, behind)), ofFunction);
                    due("a result of " + own + " to " + target, loaded(section(1, 64, before, 0x60, 0, 1, mark, number, behind)), ofFunction);
                }
            }
            due("a function's type before", loaded(section(1, 2, 0x60, 0, 0, 0x5e, mark, 0, 0)), -2);
            due("the last of 16 fields", loaded(section(1, 2, 0x5f, 16, Support.many(15, 0x7f, 0), mark, 1, 0, 0x5f, 0)), -2);
            due("elsewhere it can be any", loaded(section(1, 64, Support.many(64, 0x5f, 0)), section(6, 1, 0x63, 63, 0, 0xd0, 63, 0x0b)), 0);
            due("but it must be there", loaded(section(1, 63, Support.many(63, 0x5f, 0)), section(6, 1, 0x63, 63, 0, 0xd0, 63, 0x0b)), -2);
        }
    }

    /* Which bytes can begin a value type, a field, a type: all others are malformed. */
    private static void valueTypes() {
        for (int mark = 0; mark < 256; mark++) {
            boolean plain = mark == 0x7f || mark == 0x7e || mark == 0x6d || mark == 0x6c;
            boolean reference = mark == 0x63 || mark == 0x64;
            int[] type = reference ? b(mark, 0x6d) : b(mark);
            int value = plain || reference ? 0 : -1;
            int field = plain || reference || mark == 0x78 || mark == 0x77 ? 0 : -1;
            due("parameter " + mark, loaded(section(1, 1, 0x60, 1, type, 0)), value);
            due("result " + mark, loaded(section(1, 1, 0x60, 0, 1, type)), value);
            due("field " + mark, loaded(section(1, 1, 0x5f, 1, type, 0)), field);
            due("element " + mark, loaded(section(1, 1, 0x5e, type, 0)), field);
            due("local " + mark, loaded(oneFunction(), section(10, 1, 4 + type.length - 1, 1, 1, type, 0x0b)), mark == 0x64 ? -2 : value);
            boolean kind = mark == 0x60 || mark == 0x5f || mark == 0x5e;
            int[] rest = mark == 0x60 ? b(0, 0) : mark == 0x5f ? b(0) : b(0x7f, 0);
            due("a type that begins with " + mark, loaded(section(1, 1, mark, rest)), kind ? 0 : -1);
            boolean target = mark == 0x6d || mark == 0x6c;
            due("target " + mark, body(0xd0, mark, 0x1a), target ? 0 : mark < 0x40 || mark >= 0x80 ? -2 : -1);
        }
    }

    /* "then 0 or 1 (it can be SET)". */
    private static void flags() {
        for (int flag = 0; flag < 256; flag++) {
            int want = flag <= 1 ? 0 : -1;
            due("a field's flag " + flag, loaded(section(1, 1, 0x5f, 1, 0x7f, flag)), want);
            due("an element's flag " + flag, loaded(section(1, 1, 0x5e, 0x7f, flag)), want);
            due("a global's flag " + flag, loaded(section(6, 1, 0x7f, flag, 0x41, 0, 0x0b)), want);
            int[] told = flag == 0 ? b(0, 1) : b(flag, 1, 1);
            due("a table's limits " + flag, loaded(section(4, 1, 0x70, told)), want);
            due("a memory's limits " + flag, loaded(section(5, 1, told)), want);
            int[] element = b(flag, 0x41, 0, 0x0b, 0);
            due("an element's first byte " + flag, loaded(section(4, 1, 0x70, 0, 1), section(9, 1, element)), flag == 0 ? 0 : -1);
            due("data's first byte " + flag, loaded(section(5, 1, 0, 1), section(11, 1, element)), flag == 0 ? 0 : -1);
            due("a table of " + flag, loaded(section(4, 1, flag, 0, 1)), flag == 0x70 ? 0 : -1);
            Support.Mod mod = new Support.Mod().memory(0, 1);
            due("the byte of pages " + flag, Support.oneWith(mod, NOTHING, NOTHING, 0x3f, flag, 0x1a).loaded(), flag == 0 ? 0 : -1);
            Support.Mod more = new Support.Mod().memory(0, 1);
            due("the byte of more pages " + flag, Support.oneWith(more, NOTHING, NOTHING, 0x41, 0, 0x40, flag, 0x1a).loaded(), flag == 0 ? 0 : -1);
        }
    }

    /* "A table's least is at most 64, its most is not looked at further; .. least at most 16", "the most, not less". */
    private static void limits() {
        for (int least : new int[] {0, 1, 15, 16, 17, 63, 64, 65, 66, 1000}) {
            int[] u = Support.u(least);
            due("a table of " + least, loaded(section(4, 1, 0x70, 0, u)), least <= 64 ? 0 : -2);
            due("a table of just " + least, loaded(section(4, 1, 0x70, 1, u, u)), least <= 64 ? 0 : -2);
            due("a memory of " + least, loaded(section(5, 1, 0, u)), least <= 16 ? 0 : -2);
            due("a memory of just " + least, loaded(section(5, 1, 1, u, u)), least <= 16 ? 0 : -2);
            if (least > 0) {
                due("a table with less", loaded(section(4, 1, 0x70, 1, u, Support.u(least - 1))), -2);
                due("a memory with less", loaded(section(5, 1, 1, u, Support.u(least - 1))), -2);
            }
            for (long most : new long[] {least + 1, 1000, 65536, 0x7fffffffL, 0x80000000L, 0xffffffffL}) {
                due("a table's most", loaded(section(4, 1, 0x70, 1, u, Support.u(most))), least <= 64 ? 0 : -2);
                due("a memory's most", loaded(section(5, 1, 1, u, Support.u(most))), least <= 16 ? 0 : -2);
            }
        }
        for (long least : new long[] {0x7fffffffL, 0x80000000L, 0xffffffffL}) {
            due("far too great a table", loaded(section(4, 1, 0x70, 0, Support.u(least))), -2);
            due("far too great a memory", loaded(section(5, 1, 1, Support.u(least), Support.u(least))), -2);
        }
    }

    private static int global(Object... parts) {
        return loaded(section(1, 2, 0x5f, 0, 0x60, 0, 0), section(6, 1, b(parts)));
    }

    /* "an instruction 0x41, 0x42 or 0xd0 (any other byte is malformed) that makes a value of the type (or of one below it), 0x0b". */
    private static void firstValues() {
        for (int op = 0; op < 256; op++) {
            boolean good = op == 0x41 || op == 0x42 || op == 0xd0;
            due("an instruction " + op, global(0x7f, 0, op, 0, 0x0b), op == 0x41 ? 0 : good ? -2 : -1);
            due("an end " + op, global(0x7f, 0, 0x41, 0, op), op == 0x0b ? 0 : -1);
        }
        int[][] types = {b(0x7f), b(0x7e), b(0x6d), b(0x6c), b(0x63, 0), b(0x64, 0x6d), b(0x64, 0x6c), b(0x64, 0), b(0x63, 0x6d), b(0x63, 0x6c)};
        int[][] values = {b(0x41, 0), b(0x42, 0), b(0xd0, 0x6d), b(0xd0, 0x6c), b(0xd0, 0)};
        int[][] fits = {{0}, {1}, {2, 3, 4}, {3}, {4}, {}, {}, {}, {2, 3, 4}, {3}};
        for (int k = 0; k < types.length; k++) {
            for (int n = 0; n < values.length; n++) {
                int value = n;
                boolean good = Arrays.stream(fits[k]).anyMatch(f -> f == value);
                due("a global of kind " + k + " by " + n, global(types[k], 0, values[n], 0x0b), good ? 0 : -2);
            }
        }
    }

    private static int export(Object... parts) {
        return loaded(section(1, 1, 0x60, 0, 0), section(3, 2, 0, 0), section(4, 1, 0x70, 0, 9), section(5, 1, 0, 9),
                section(6, 3, Support.many(3, 0x7f, 0, 0x41, 0, 0x0b)), section(7, b(parts)), section(10, 2, 2, 0, 0x0b, 2, 0, 0x0b));
    }

    /* "a byte 0 .. 3 (function, table, memory, global), a U, its number". */
    private static void exportedThings() {
        int[] there = {2, 1, 1, 3};
        for (int kind = 0; kind < 256; kind++) {
            for (int number = 0; number < 5; number++) {
                int want = kind > 3 ? -1 : number < there[kind] ? 0 : -2;
                due("export of kind " + kind + ", number " + number, export(1, 1, 'a', kind, number), want);
            }
        }
        int[][] parts = {b(oneFunction()), section(4, 1, 0x70, 0, 9), section(5, 1, 0, 9), section(6, 1, 0x7f, 0, 0x41, 0, 0x0b)};
        for (int kind = 0; kind <= 3; kind++) {
            due("nothing of kind " + kind, loaded(section(7, 1, 1, 'a', kind, 0)), -2);
            for (int only = 0; only <= 3; only++) {
                int[] body = only == 0 ? section(10, 1, 2, 0, 0x0b) : NOTHING;
                due("kind " + kind + " where only " + only + " is", loaded(parts[only], section(7, 1, 1, 'a', kind, 0), body), kind == only ? 0 : -2);
            }
        }
    }

    /* "its NAME; no two are the same". */
    private static void exportedNames() {
        int[][] names = {NOTHING, b('a'), b('b'), b('a', 'a'), b('a', 'b'), b('b', 'a'), b(0), b(0, 0), b(0x80), b(0xff), Support.many(127, 'x'), b(Support.many(126, 'x'), 'y'), Support.many(126, 'x')};
        for (int first = 0; first < names.length; first++) {
            for (int second = 0; second < names.length; second++) {
                int[] one = b(names[first].length, names[first], 0, 0);
                int[] other = b(names[second].length, names[second], 3, 1);
                due("names " + first + ", " + second, export(2, one, other), first == second ? -2 : 0);
                due("names " + first + ", " + second + " apart", export(4, one, 1, 'p', 0, 0, 1, 'q', 0, 1, other), first == second ? -2 : 0);
            }
        }
    }

    /* A name is its bytes, however its length is written. */
    private static void namesOfOtherLengths() {
        due("the same name, its length in two bytes", export(2, 1, 'a', 0, 0, 0x81, 0x00, 'a', 0, 1), -2);
        due("the same name, both lengths in more bytes", export(2, 0x82, 0x00, 'a', 'b', 0, 0, 0x82, 0x80, 0x00, 'a', 'b', 0, 1), -2);
        due("no name, its length in five bytes", export(2, 0, 0, 0, 0x80, 0x80, 0x80, 0x80, 0x00, 0, 1), -2);
        due("another name, its length in two bytes", export(2, 1, 'a', 0, 0, 0x81, 0x00, 'b', 0, 1), 0);
    }

    /* "8: a U, the function that is called first (no parameters, no results)". */
    private static void theFunctionThatIsCalledFirst() {
        int[][] types = {b(0x60, 0, 0), b(0x60, 1, 0x7f, 0), b(0x60, 0, 1, 0x7f), b(0x60, 1, 0x7f, 1, 0x7f), b(0x60, 1, 0x6d, 0)};
        for (int k = 0; k < types.length; k++) {
            Support.Mod mod = new Support.Mod();
            mod.fn(mod.type(0x60, 0, 0), 0x00);
            mod.fn(mod.type(types[k]), 0x0c, 0, 0x00);
            mod.bodies.set(1, b(4, 0, 0x01, k == 2 || k == 3 ? 0x00 : 0x01, 0x0b));
            mod.start = b(1);
            due("called first, of kind " + k, mod.loaded(), k == 0 ? 0 : -2);
            mod.start = b(0);
            due("the other one traps", mod.loaded(), 1);
            mod.start = b(2);
            due("one that is not there", mod.loaded(), -2);
        }
        due("no functions", loaded(section(8, 0)), -2);
    }

    /* "a row, as many as functions (without the section there may be none)". */
    private static void codeForFunctions() {
        int[] type = section(1, 1, 0x60, 0, 0);
        for (int functions = 0; functions <= 3; functions++) {
            due(functions + " functions without code", loaded(type, section(3, functions, Support.many(functions, 0))), functions == 0 ? 0 : -2);
            for (int bodies = 0; bodies <= 3; bodies++) {
                int got = loaded(type, section(3, functions, Support.many(functions, 0)), section(10, bodies, Support.many(bodies, 2, 0, 0x0b)));
                due(functions + " functions, " + bodies + " bodies", got, functions == bodies ? 0 : -2);
            }
        }
        due("code alone", loaded(section(10, 1, 2, 0, 0x0b)), -2);
        due("65 bodies for 64", loaded(type, section(3, 64, Support.many(64, 0)), section(10, 65, Support.many(65, 2, 0, 0x0b))), -2);
        due("64 bodies for 65", loaded(type, section(3, 65, Support.many(65, 0)), section(10, 64, Support.many(64, 2, 0, 0x0b))), -2);
        for (int number : new int[] {0, 1, 2, 3, 63, 64, 65}) {
            int got = loaded(section(1, 3, 0x5f, 0, 0x60, 0, 0, 0x5e, 0x7f, 0), section(3, 1, number), section(10, 1, 2, 0, 0x0b));
            due("a function of type " + number, got, number == 1 ? 0 : -2);
        }
    }

    /* "at most 200 LOCALS with the parameters", "a value type that has a DEFAULT: no 0x64". */
    private static void locals() {
        for (int parameters : new int[] {0, 1, 16}) {
            for (int more : new int[] {199, 200, 201}) {
                int rest = more - parameters;
                int want = more <= 200 ? 0 : -2;
                due("in one group", localsOf(parameters, b(1, Support.u(rest), 0x7f)), want);
                due("in two groups", localsOf(parameters, b(2, Support.u(rest - 50), 0x7f, 50, 0x6d)), want);
                due("one by one", localsOf(parameters, b(Support.u(rest), Support.many(rest, 1, 0x7e))), want);
                due("and none of more", localsOf(parameters, b(2, Support.u(rest), 0x7f, 0, 0x7e)), want);
            }
        }
        due("their sum comes round", localsOf(1, b(2, Support.u(0xffffffffL), 0x7f, 1, 0x7f)), -2);
        due("2^31", localsOf(1, b(1, Support.u(0x80000000L), 0x7f)), -2);
        int[][] types = {b(0x64, 0x6d), b(0x64, 0x6c), b(0x64, 0)};
        for (int[] type : types) {
            due("no default", localsOf(0, b(1, 1, type)), -2);
            due("no default behind others", localsOf(0, b(2, 1, 0x7f, 1, type)), -2);
        }
        due("a default of null", localsOf(0, b(4, 1, 0x63, 0x6d, 1, 0x63, 0x6c, 1, 0x63, 0, 1, 0x6c)), 0);
    }

    private static int localsOf(int parameters, int[] rows) {
        Support.Mod mod = new Support.Mod();
        mod.type(0x5f, 0);
        mod.fnWith(mod.type(0x60, parameters, Support.many(parameters, 0x7f), 0), rows);
        return mod.loaded();
    }

    /* "instructions up to an 0x0b that ends the function, just at the end of the bytes". */
    private static void endsOfBodies() {
        int[] two = b(section(1, 1, 0x60, 0, 0), section(3, 2, 0, 0));
        due("just so", loaded(two, section(10, 2, 3, 0, 0x01, 0x0b, 2, 0, 0x0b)), 0);
        due("one byte less", loaded(two, section(10, 2, 2, 0, 0x01, 0x0b, 2, 0, 0x0b)), -1);
        due("one byte more", loaded(two, section(10, 2, 4, 0, 0x01, 0x0b, 2, 0, 0x0b)), -1);
        due("the end is the next one's", loaded(two, section(10, 2, 4, 0, 0x01, 0x01, 0x01, 2, 0, 0x0b)), -1);
        due("behind an end", loaded(two, section(10, 2, 4, 0, 0x0b, 0x01, 0x0b, 2, 0, 0x0b)), -1);
        due("a number over the end", loaded(two, section(10, 2, 3, 0, 0x41, 0x8b, 2, 0, 0x0b)), -1);
        due("locals over the end", loaded(two, section(10, 2, 2, 1, 0x01, 2, 0, 0x0b)), -1);
        due("the last over the section's end", loaded(two, section(10, 2, 2, 0, 0x0b, 3, 0, 0x0b)), -1);
        due("of no bytes", loaded(two, section(10, 2, 2, 0, 0x0b, 0)), -1);
        due("of locals alone", loaded(two, section(10, 2, 2, 0, 0x0b, 1, 0)), -1);
    }

    /* "an 0x05 outside of an 0x04 or a second one". */
    private static void elsesAndEnds() {
        for (int block : new int[] {0x02, 0x03}) {
            due("in a block", body(block, 0x40, 0x05, 0x0b), -1);
            due("in a block in an if", body(0x41, 0, 0x04, 0x40, block, 0x40, 0x05, 0x0b, 0x0b), -1);
            due("in an if in a block", body(block, 0x40, 0x41, 0, 0x04, 0x40, 0x05, 0x0b, 0x0b), 0);
            due("behind an if in a block", body(block, 0x40, 0x41, 0, 0x04, 0x40, 0x0b, 0x05, 0x0b), -1);
            due("behind a block in an if", body(0x41, 0, 0x04, 0x40, block, 0x40, 0x0b, 0x05, 0x0b), 0);
        }
        due("in the body", body(0x05), -1);
        due("once", body(0x41, 0, 0x04, 0x40, 0x05, 0x0b), 0);
        due("twice", body(0x41, 0, 0x04, 0x40, 0x05, 0x05, 0x0b), -1);
        due("a second one behind others", body(0x41, 0, 0x04, 0x40, 0x05, 0x01, 0x01, 0x05, 0x0b), -1);
        due("in the if of an else", body(0x41, 0, 0x04, 0x40, 0x05, 0x41, 0, 0x04, 0x40, 0x05, 0x0b, 0x0b), 0);
        due("a second one behind such an if", body(0x41, 0, 0x04, 0x40, 0x05, 0x41, 0, 0x04, 0x40, 0x0b, 0x05, 0x0b), -1);
        due("where it can't be come to", body(0x00, 0x05), -1);
    }

    private static boolean isRefused(int op) {
        int[] ranges = {0x1c, 0x1d, 0x25, 0x26, 0x2a, 0x2b, 0x38, 0x39, 0x43, 0x44, 0x5b, 0x66, 0x8b, 0xa6, 0xa8, 0xab, 0xae, 0xbf, 0xd2, 0xd2, 0xfc, 0xfd};
        for (int k = 0; k < ranges.length; k += 2) {
            if (op >= ranges[k] && op <= ranges[k + 1]) {
                return true;
            }
        }
        return false;
    }

    /* "All others are REFUSED, if they are .., or 0xfb with another number up to 30; else malformed." */
    private static void refusedOrMalformed() {
        int[] unknown = {0x05, 0x06, 0x07, 0x08, 0x09, 0x0a, 0x12, 0x13, 0x14, 0x19, 0x1e, 0x1f, 0x27, 0xc5, 0xc6, 0xcf, 0xd7, 0xdf, 0xe0, 0xfa, 0xfe, 0xff};
        for (int op : unknown) {
            due("unknown " + op, body(0x00, op), -1);
        }
        for (int op = 0; op < 256; op++) {
            if (isRefused(op)) {
                due("refused " + op, body(op), -3);
                due("refused where it can't be come to " + op, body(0x00, op), -3);
            }
        }
        List<Integer> refused = List.of(9, 10, 17, 18, 19, 24, 25, 26, 27);
        for (int op = 0; op < 200; op++) {
            int got = body(0x00, 0xfb, Support.u(op), 0, 0);
            int want = refused.contains(op) ? -3 : -1;
            if (op > 30 || want == -3) {
                due("0xfb " + op, got, want);
            } else {
                due("0xfb " + op + " is known", got == -3 ? 1 : 0, 0);
            }
        }
        due("0xfb 30 + 2^7", body(0x00, 0xfb, 0x9e, 0x01), -1);
        due("0xfb 256 + 9", body(0x00, 0xfb, 0x89, 0x02), -1);
        due("0xfb alone", loaded(oneFunction(), section(10, 1, 2, 0, 0xfb)), -1);
    }

    /* "the first thing that cannot be read as told .. is -1 .. or -3 .. If all can be read, anything else .. is -2". */
    private static void whichErrorIsTold() {
        int[][] wrong = {b(0x06), b(0xfd), b(0x1a)};
        int[] answers = {-1, -3, -2};
        for (int first = 0; first < 3; first++) {
            for (int second = 0; second < 3; second++) {
                int want = first < 2 ? answers[first] : answers[second];
                due(first + ", then " + second, body(wrong[first], wrong[second]), want);
                Support.Mod mod = Support.one(NOTHING, NOTHING, wrong[first]);
                mod.fn(0, wrong[second]);
                due(first + ", then " + second + " in the next body", mod.loaded(), want);
            }
            int[][] sections = {b(12, 0), b(11, 0), section(11, 1, 0, 0x41, 0, 0x0b, 0)};
            for (int second = 0; second < 3; second++) {
                Support.Mod mod = Support.one(NOTHING, NOTHING, wrong[first]);
                mod.last = sections[second];
                due(first + ", then section " + second, mod.loaded(), first < 2 ? answers[first] : second < 2 ? -1 : -2);
            }
        }
        due("a type that is not there, then malformed", loaded(section(1, 1, 0x5e, 0x63, 9, 0), section(3, 1, 7), section(2, 0)), -1);
        due("bounds, then malformed", loaded(section(4, 1, 0x70, 0, 65), section(5, 1, 2, 0)), -1);
        due("the same name, then refused", loaded(oneFunction(), section(7, 2, 0, 0, 0, 0, 0, 0), section(10, 1, 3, 0, 0x43, 0x0b)), -3);
        due("no table, then malformed", loaded(section(9, 1, 0, 0x41, 0, 0x0b, 0), section(10, 1, 2, 0, 0x06)), -1);
        due("refused in a body that ends too late", loaded(oneFunction(), section(10, 1, 4, 0, 0x43, 0x0b, 0x0b)), -3);
        due("refused in the first of many bodies, which are not there", loaded(oneFunction(), section(10, 0xff, 0x01, 3, 0, 0x43, 0x0b)), -3);
        due("malformed in the first of many bodies, then refused", loaded(oneFunction(), section(10, 2, 3, 0, 0x06, 0x0b, 3, 0, 0x43, 0x0b)), -1);
        due("malformed numbers ahead of what is refused", body(0x41, 0x80, 0x80, 0x80, 0x80, 0x10, 0x43), -1);
    }
}

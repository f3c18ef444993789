import java.util.ArrayList;
import java.util.IdentityHashMap;
import java.util.List;
import java.util.Map;
import java.util.Random;

/** Promises 5 and 9: what objects take, which of them live, and trap 11. */
public final class RoomTest {
    private static final int I32 = Support.I32;
    private static final int[] NOTHING = {};

    public static void main(String[] args) {
        sizes();
        justTheRoom();
        whatItIsMadeOf();
        dropped();
        localsAndStack();
        callers();
        results();
        circles();
        churn();
        smallOnesTakeNone();
        againstAModel();
        Support.end();
    }

    private static int[] b(Object... parts) {
        return Support.b(parts);
    }

    private static void due(String what, long got, long want) {
        Support.due(what, got, want);
    }

    /** Types 0 an array of anything, 1 a structure of three, 2 an array of 8 bits, 3 a structure of none; global 0, exported last. */
    private static Support.Mod mod(Object... code) {
        Support.Mod mod = new Support.Mod();
        mod.type(0x5e, 0x6d, 1);
        mod.type(0x5f, 3, 0x6d, 1, I32, 1, 0x78, 1);
        mod.type(0x5e, 0x78, 1);
        mod.type(0x5f, 0);
        mod.global(b(0x6d), 1, 0xd0, 0x6d);
        mod.fnWith(mod.type(0x60, 1, I32, 0), b(1, 4, 0x6d), code);
        return mod;
    }

    private static int[] array(long n) {
        return b(Support.i32(n), 0xfb, 7, 0);
    }

    private static void lives(String what, int trap, int lives, Object... code) {
        Support.House house = mod(code).house();
        due(what, house.call('a', 100, 0), trap);
        due(what + ": what lives", house.x.look(7), lives);
        due(what + ": looked at again", house.x.look(7), lives);
    }

    private static void sizes() {
        lives("nothing", 0, 0);
        lives("a structure of none", 0, 1, 0xfb, 1, 3, 0x24, 0);
        lives("a structure of three", 0, 4, 0xfb, 1, 1, 0x24, 0);
        lives("an array of none", 0, 1, array(0), 0x24, 0);
        lives("an array of five", 0, 6, array(5), 0x24, 0);
        lives("8 bits take as much", 0, 101, Support.i32(100), 0xfb, 7, 2, 0x24, 0);
        lives("an array of two structures", 0, 11, 0xfb, 1, 1, 0xfb, 1, 1, 0xfb, 8, 0, 2, 0x24, 0);
        lives("twice the same", 0, 7, 0xfb, 1, 1, 0x22, 1, 0x20, 1, 0xfb, 8, 0, 2, 0x24, 0);
        lives("a global that is set anew", 0, 1, array(9), 0x24, 0, array(0), 0x24, 0);
        lives("a global that is null again", 0, 0, array(9), 0x24, 0, 0xd0, 0x6d, 0x24, 0);
    }

    private static void justTheRoom() {
        lives("all the room", 0, 2000, array(1999), 0x24, 0);
        lives("one more", 11, 0, array(2000), 0x24, 0);
        lives("far more", 11, 0, array(-1), 0x24, 0);
        lives("2^31", 11, 0, array(Integer.MIN_VALUE), 0x24, 0);
        lives("with a value", 0, 2000, 0xd0, 0x6d, Support.i32(1999), 0xfb, 6, 0, 0x24, 0);
        lives("with a value, one more", 11, 0, 0xd0, 0x6d, Support.i32(2000), 0xfb, 6, 0, 0x24, 0);
        lives("a structure beside", 0, 1996, array(1995), 0x24, 0, 0xfb, 1, 1, 0x1a);
        lives("a structure too much", 11, 1997, array(1996), 0x24, 0, 0xfb, 1, 1, 0x1a);
        lives("a told structure too much", 11, 1997, array(1996), 0x24, 0, 0xd0, 0x6d, 0x41, 0, 0x41, 0, 0xfb, 0, 1, 0x1a);
        lives("told elements beside", 0, 1997, array(1996), 0x24, 0, 0xd0, 0x6d, 0xd0, 0x6d, 0xfb, 8, 0, 2, 0x1a);
        lives("told elements too much", 11, 1998, array(1997), 0x24, 0, 0xd0, 0x6d, 0xd0, 0x6d, 0xfb, 8, 0, 2, 0x1a);
        lives("none needs one", 0, 1999, array(1998), 0x24, 0, array(0), 0x1a);
        lives("none when all is taken", 11, 2000, array(1999), 0x24, 0, array(0), 0x1a);
    }

    private static void whatItIsMadeOf() {
        lives("its value lives", 0, 2000, array(1900), Support.i32(98), 0xfb, 6, 0, 0x24, 0);
        lives("its value is too much", 11, 0, array(1900), Support.i32(99), 0xfb, 6, 0, 0x24, 0);
        lives("its value lives, though none takes it", 11, 0, array(1999), 0x41, 0, 0xfb, 6, 0, 0x24, 0);
        lives("its field lives", 0, 2000, array(1995), 0x41, 0, 0x41, 0, 0xfb, 0, 1, 0x24, 0);
        lives("its field is too much", 11, 0, array(1996), 0x41, 0, 0x41, 0, 0xfb, 0, 1, 0x24, 0);
    }

    private static void dropped() {
        lives("dropped", 0, 2000, array(1500), 0x1a, array(1999), 0x24, 0);
        lives("not dropped", 11, 0, array(1500), array(1999), 0x24, 0, 0x1a);
        lives("gone by a way out", 0, 2000, 0x02, 0x40, array(1500), 0x0c, 0, 0x0b, array(1999), 0x24, 0);
        int[] held = b(array(1), 0x22, 1, 0xfb, 22, 0, 0x41, 0, array(1500), 0xfb, 14, 0);
        lives("held in a field", 11, 0, held, array(1997), 0x24, 0);
        lives("gone from a field", 0, 1998, held, 0x20, 1, 0xfb, 22, 0, 0x41, 0, 0xd0, 0x6d, 0xfb, 14, 0, array(1997), 0x24, 0);
    }

    private static void localsAndStack() {
        lives("a local", 11, 0, array(1500), 0x21, 1, array(1999), 0x24, 0);
        lives("a local that is null again", 0, 2000, array(1500), 0x21, 1, 0xd0, 0x6d, 0x21, 1, array(1999), 0x24, 0);
        lives("a local and the stack", 0, 500, array(499), 0x22, 1, array(499), array(499), 0x1a, 0x1a, array(499), 0x1a, 0x24, 0);
        lives("a value below a block", 11, 0, array(1000), 0x02, 0x40, array(1000), 0x1a, 0x0b, 0x1a);
        lives("locals are gone behind a call", 0, 0, array(1500), 0x21, 1);
        Support.Mod first = mod(NOTHING);
        first.fnWith(first.type(0x60, 0, 0), b(1, 1, 0x6d), array(1500), 0x21, 0, array(1999), 0x24, 0);
        due("the very first local", first.house().call('b', 9), 11);
        Support.House house = mod(array(1500), 0x21, 1).house();
        for (int k = 0; k < 3; k++) {
            due("call again", house.call('a', 9, 0), 0);
        }
    }

    private static void callers() {
        Support.Mod mod = mod(array(1000), 0x21, 1, 0x10, 1);
        mod.fn(mod.type(0x60, 0, 0), array(1000), 0x1a);
        due("a local of the caller", mod.house().call('a', 9, 0), 11);
        mod = mod(array(1000), 0x10, 1, 0x1a);
        mod.fn(mod.type(0x60, 0, 0), array(1000), 0x1a);
        due("a value on the caller's stack", mod.house().call('a', 9, 0), 11);
        mod = mod(array(1000), 0x10, 1);
        mod.fn(mod.type(0x60, 1, 0x6d, 0), array(1000), 0x1a);
        due("an argument", mod.house().call('a', 9, 0), 11);
        mod = mod(array(1000), 0x10, 1);
        mod.fn(mod.type(0x60, 1, 0x6d, 0), 0xd0, 0x6d, 0x21, 0, array(1999), 0x1a);
        due("an argument that is set anew", mod.house().call('a', 9, 0), 0);
        mod = mod(0x10, 1, 0x10, 1, 0x1a, 0x1a);
        mod.fnWith(mod.type(0x60, 0, 1, 0x6d), b(1, 1, 0x6d), array(500), 0x21, 0, array(499));
        due("a result lives, the locals don't", mod.house().call('a', 9, 0), 0);
    }

    private static void results() {
        Support.Mod mod = mod(NOTHING);
        mod.fn(mod.type(0x60, 0, 1, 0x6d), array(1999));
        Support.House house = mod.house();
        due("a result", house.call('b', 9), 0);
        due("it is not null", house.x.result(0), 1);
        due("it refers to nothing", house.x.look(7), 0);
        due("again", house.call('b', 9), 0);
    }

    private static void circles() {
        int[] circle = b(array(1), 0x22, 1, 0xfb, 22, 0, 0x41, 0, 0x20, 1, 0xfb, 14, 0);
        lives("a circle that lives", 0, 2, circle, 0x20, 1, 0x24, 0);
        lives("a circle that does not", 0, 2000, circle, 0xd0, 0x6d, 0x21, 1, array(1999), 0x24, 0);
        lives("a circle that does", 11, 0, circle, array(1999), 0x24, 0);
    }

    private static void churn() {
        int[] chain = b(0x03, 0x40, 0x23, 0, 0x41, 1, 0x41, 2, 0xfb, 0, 1, 0x24, 0,
                0x20, 0, 0x41, 1, 0x6b, 0x22, 0, 0x0d, 0, 0x0b);
        Support.House house = mod(chain).house();
        due("a chain of 500", house.call('a', 1000, 500), 0);
        due("all of it lives", house.x.look(7), 2000);
        due("one more", house.call('a', 1000, 1), 11);
        due("it stays", house.x.look(7), 2000);
        int[] waste = b(0x03, 0x40, Support.i32(300), 0xfb, 7, 0, 0x21, 1, 0x41, 5, 0xfb, 28, 0x1a,
                0x20, 0, 0x41, 1, 0x6b, 0x22, 0, 0x0d, 0, 0x0b);
        house = mod(waste).house();
        due("much waste", house.call('a', 5000, 3000), 0);
        due("nothing lives", house.x.look(7), 0);
        int[] least = b(0x03, 0x40, 0xfb, 1, 3, 0x21, 1, 0x20, 0, 0x41, 1, 0x6b, 0x22, 0, 0x0d, 0, 0x0b, 0x20, 1, 0x24, 0);
        house = mod(least).house();
        due("many of the least", house.call('a', 9000, 8000), 0);
        due("the last one lives", house.x.look(7), 1);
    }

    private static void smallOnesTakeNone() {
        lives("a small one", 0, 0, 0x41, 5, 0xfb, 28, 0x24, 0);
        lives("small ones in an array", 0, 2000, 0x41, 5, 0xfb, 28, Support.i32(1999), 0xfb, 6, 0, 0x24, 0);
        lives("numbers that look like references", 0, 2000, 0x41, 1, array(1500), 0x1a, 0x41, 1, 0x41, 2, array(1999), 0x24, 0, 0x1a, 0x1a, 0x1a);
    }

    private static final class Node {
        final Node[] kids;

        Node(int n) {
            kids = new Node[n];
        }
    }

    private static int taken(Node root) {
        Map<Node, Boolean> met = new IdentityHashMap<>();
        List<Node> open = new ArrayList<>();
        open.add(root);
        met.put(root, true);
        int sum = 0;
        while (!open.isEmpty()) {
            Node node = open.remove(open.size() - 1);
            sum += 1 + node.kids.length;
            for (Node kid : node.kids) {
                if (kid != null && met.put(kid, true) == null) {
                    open.add(kid);
                }
            }
        }
        return sum;
    }

    /** Objects in 16 slots of an array that a global refers to, linked and let go by chance. */
    private static void againstAModel() {
        int[] slots = b(0x23, 0, 0xfb, 22, 0);
        Support.Mod mod = mod(array(16), 0x24, 0);
        int two = mod.type(0x60, 2, I32, I32, 0);
        int three = mod.type(0x60, 3, I32, I32, I32, 0);
        int[] slot0 = b(slots, 0x20, 0, 0xfb, 11, 0, 0xfb, 22, 0);
        mod.fn(two, slots, 0x20, 0, 0x20, 1, 0xfb, 7, 0, 0xfb, 14, 0);
        mod.fn(three, slot0, 0x20, 1, slots, 0x20, 2, 0xfb, 11, 0, 0xfb, 14, 0);
        mod.fn(two, slots, 0x20, 0, 0xd0, 0x6d, 0xfb, 14, 0);
        mod.fn(two, slots, 0x20, 0, slot0, 0x20, 1, 0xfb, 11, 0, 0xfb, 14, 0);
        Random random = new Random(7);
        for (int round = 0; round < 30; round++) {
            Support.House house = mod.house();
            house.call('a', 5, 0);
            Node root = new Node(16);
            for (int step = 0; step < 80; step++) {
                modelStep(house, root, random);
            }
        }
    }

    private static void modelStep(Support.House house, Node root, Random random) {
        int slot = random.nextInt(16);
        int other = random.nextInt(16);
        int n = random.nextInt(random.nextInt(4) == 0 ? 400 : 40);
        Node node = root.kids[slot];
        int want = 0;
        int got;
        switch (random.nextInt(6)) {
            case 0, 1, 2 -> {
                got = house.call('b', 5, slot, n);
                if (taken(root) + 1 + n > 2000) {
                    want = 11;
                } else {
                    root.kids[slot] = new Node(n);
                }
            }
            case 3 -> {
                got = house.call('c', 5, slot, n, other);
                want = node == null ? 9 : n >= node.kids.length ? 10 : 0;
                if (want == 0) {
                    node.kids[n] = root.kids[other];
                }
            }
            case 4 -> {
                got = house.call('d', 5, slot, 0);
                root.kids[slot] = null;
            }
            default -> {
                got = house.call('e', 5, slot, n);
                want = node == null ? 9 : n >= node.kids.length ? 10 : 0;
                if (want == 0) {
                    root.kids[slot] = node.kids[n];
                }
            }
        }
        due("a step", got, want);
        if (random.nextInt(3) == 0) {
            due("what lives", house.x.look(7), taken(root));
        }
    }
}

/** Each promise by itself: ordinary inputs, the edges that the document names, wrong inputs. */
public final class PromisesTest {
    private static final Class<?> UNSUPPORTED = UnsupportedOperationException.class;
    private static final Class<?> INDEX = IndexOutOfBoundsException.class;
    private static final Class<?> ARGUMENT = IllegalArgumentException.class;
    private static final Class<?> STATE = IllegalStateException.class;
    private static final int FILE = 2;
    private static int wrong = 0;
    private static int checks = 0;
    private static String promise = "";

    private interface Call {
        long answer();
    }

    private static void due(String text, Call call, long answer) {
        check(text, call, Long.toString(answer));
    }

    private static void refused(String text, Call call, Class<?> exception) {
        check(text, call, exception.getSimpleName());
    }

    private static void check(String text, Call call, String answer) {
        String got;
        try {
            got = Long.toString(call.answer());
        } catch (RuntimeException e) {
            got = e.getClass().getSimpleName();
        }
        checks++;
        if (!got.equals(answer)) {
            wrong++;
            System.out.println("promise " + promise + ": " + text + " answered " + got + ", due is " + answer);
        }
    }

    /** The counts alone, for an object has no more than 512 calls; the tests of the bounds look at everything. */
    private static String stateOf(PackedTree t) {
        StringBuilder s = new StringBuilder();
        for (int what = 0; what <= 7; what++) {
            s.append(t.count(what)).append(' ');
        }
        return s.toString();
    }

    private static void refusedWithoutChange(PackedTree t, String text, Call call, Class<?> exception) {
        String before = stateOf(t);
        refused(text, call, exception);
        checks++;
        if (!before.equals(stateOf(t))) {
            wrong++;
            System.out.println("promise " + promise + ": " + text + " threw, but changed something");
        }
    }

    private static PackedTree withFile(int blocks, int journal) {
        PackedTree t = new PackedTree(blocks, journal);
        t.make(1, 0, false);
        return t;
    }

    private static PackedTree dark() {
        PackedTree t = withFile(96, 64);
        t.fail(0);
        t.commit();
        return t;
    }

    /** All blocks in use but so many; the last file that was made holds them. */
    private static PackedTree nearlyFull(int blocks, int free) {
        PackedTree t = withFile(blocks, 64);
        int file = FILE;
        int names = 1;
        while (t.count(0) < blocks - free) {
            int size = t.about(file, 2);
            if (size == 2048) {
                file = t.make(1, names++, false);
            } else {
                t.fill(file, size, 5, 128);
            }
        }
        return t;
    }

    private static void newObject() {
        PackedTree t = new PackedTree(16, 6);
        due("count(0)", () -> t.count(0), 2);
        due("count(1)", () -> t.count(1), 1);
        due("count(2)", () -> t.count(2), 1);
        due("count(3)", () -> t.count(3), 1);
        due("count(4)", () -> t.count(4), 1);
        due("count(5)", () -> t.count(5), 14);
        due("count(6)", () -> t.count(6), 0);
        due("count(7)", () -> t.count(7), 0);
        due("count(8)", () -> t.count(8), 0);
        due("count(9)", () -> t.count(9), 0);
        due("node(0, 0, 0)", () -> t.node(0, 0, 0), 1);
        due("node(0, 0, 3)", () -> t.node(0, 0, 3), PackedTree.NONE);
        due("about(1, 0)", () -> t.about(1, 0), 0);
        due("about(1, 1)", () -> t.about(1, 1), 1);
        due("about(1, 2)", () -> t.about(1, 2), 0);
        due("off()", () -> t.off() ? 1 : 0, 0);
        due("commit()", t::commit, 0);
        due("checkpoint()", t::checkpoint, 0);
        due("blocks of 15", () -> roomOf(15), 14);
        due("blocks of 16", () -> roomOf(16), 14);
        due("blocks of 17", () -> roomOf(17), 15);
        due("blocks of 96", () -> roomOf(96), 94);
        due("blocks of 97", () -> roomOf(97), 94);
        due("blocks of the least int", () -> roomOf(Integer.MIN_VALUE), 14);
        due("blocks of the greatest int", () -> roomOf(Integer.MAX_VALUE), 94);
        due("journal of 5", () -> journalOf(5), 6);
        due("journal of 7", () -> journalOf(7), 7);
        due("journal of the least int", () -> journalOf(Integer.MIN_VALUE), 6);
        due("journal of 64", () -> journalOf(64), 64);
        due("journal of 65", () -> journalOf(65), 64);
        due("journal of the greatest int", () -> journalOf(Integer.MAX_VALUE), 64);
    }

    private static int roomOf(int blocks) {
        PackedTree t = new PackedTree(blocks, 64);
        int most = 0;
        for (int f = 0; f < 7; f++) {
            int file = t.make(1, f, false);
            try {
                for (int at = 0; at < 2048; at += 128) {
                    t.fill(file, at, 1, 128);
                    most = t.count(0);
                }
            } catch (IllegalStateException e) {
                return most - 2;
            }
        }
        return most - 2;
    }

    /** The greatest commit that a journal takes, of bytes changed in one data block more each time. */
    private static int journalOf(int journal) {
        PackedTree t = new PackedTree(96, journal);
        int data = journal < 16 ? 16 : 64;
        for (int k = 0; k < data; k++) {
            if (k % 16 == 0) {
                t.make(1, k, false);
            }
            t.fill(FILE + k / 16, k % 16 * 128, 1, 128);
            t.commit();
        }
        int most = 0;
        for (int many = data < 64 ? 1 : 60; many <= data; many++) {
            for (int k = 0; k < many; k++) {
                t.write(FILE + k / 16, k % 16 * 128, many + 1, 1);
            }
            t.checkpoint();
            try {
                most = t.commit();
            } catch (IllegalStateException e) {
                return most;
            }
        }
        return most;
    }

    private static void make() {
        PackedTree t = new PackedTree(96, 64);
        due("make(1, 999, false)", () -> t.make(1, 999, false), 2);
        due("make(1, 0, true)", () -> t.make(1, 0, true), 3);
        due("make(3, 0, false)", () -> t.make(3, 0, false), 4);
        due("look(1, 999)", () -> t.look(1, 999), 2);
        due("look(3, 0)", () -> t.look(3, 0), 4);
        due("about(2, 0)", () -> t.about(2, 0), 1);
        due("about(2, 1)", () -> t.about(2, 1), 1);
        due("about(2, 2)", () -> t.about(2, 2), 0);
        due("about(3, 0)", () -> t.about(3, 0), 0);
        due("about(1, 2)", () -> t.about(1, 2), 2);
        due("count(5)", () -> t.count(5), 4 * 14 + 3 * 11);
        refusedWithoutChange(t, "make(2, 5, false)", () -> t.make(2, 5, false), INDEX);
        refusedWithoutChange(t, "make(5, 5, false)", () -> t.make(5, 5, false), INDEX);
        refusedWithoutChange(t, "make(0, 5, false)", () -> t.make(0, 5, false), INDEX);
        refusedWithoutChange(t, "make(61, 1000, false)", () -> t.make(61, 1000, false), INDEX);
        refusedWithoutChange(t, "make(-1, 5, true)", () -> t.make(Integer.MIN_VALUE, 5, true), INDEX);
        refusedWithoutChange(t, "make(1, 1000, false)", () -> t.make(1, 1000, false), ARGUMENT);
        refusedWithoutChange(t, "make(1, -1, false)", () -> t.make(1, -1, false), ARGUMENT);
        refusedWithoutChange(t, "make(1, 999, true)", () -> t.make(1, 999, true), STATE);
        t.unlink(1, 999);
        due("make gives the least number", () -> t.make(3, 7, true), 2);
        for (int k = 5; k <= 60; k++) {
            int number = k;
            due("make number " + k, () -> t.make(1, number, number % 2 == 0), number);
        }
        due("count(3)", () -> t.count(3), 60);
        due("about(60, 0)", () -> t.about(60, 0), 0);
        refusedWithoutChange(t, "make with 60 objects", () -> t.make(1, 800, false), STATE);
        PackedTree off = dark();
        refused("make, power off", () -> off.make(99, 5000, false), UNSUPPORTED);
        PackedTree full = nearlyFull(16, 0);
        while (full.node(0, full.count(1) - 1, 2) <= 120 - 14 - 11 && full.count(1) == 1) {
            full.make(1, full.count(3) + 100, false);
        }
        refusedWithoutChange(full, "make without room", () -> full.make(1, 900, true), STATE);
    }

    private static void link() {
        PackedTree t = withFile(96, 64);
        t.make(1, 1, true);
        due("link(3, 5, 2)", () -> t.link(3, 5, 2), 2);
        due("link(1, 999, 2)", () -> t.link(1, 999, 2), 3);
        due("about(2, 1)", () -> t.about(2, 1), 3);
        due("about(3, 2)", () -> t.about(3, 2), 1);
        due("about(1, 2)", () -> t.about(1, 2), 3);
        due("look(3, 5)", () -> t.look(3, 5), 2);
        due("count(3)", () -> t.count(3), 3);
        refusedWithoutChange(t, "link(2, 7, 2)", () -> t.link(2, 7, 2), INDEX);
        refusedWithoutChange(t, "link(1, 7, 3)", () -> t.link(1, 7, 3), INDEX);
        refusedWithoutChange(t, "link(1, 7, 1)", () -> t.link(1, 7, 1), INDEX);
        refusedWithoutChange(t, "link(1, 1000, 4)", () -> t.link(1, 1000, 4), INDEX);
        refusedWithoutChange(t, "link(1, 7, 0)", () -> t.link(1, 7, 0), INDEX);
        refusedWithoutChange(t, "link(1, 7, 61)", () -> t.link(1, 7, 61), INDEX);
        refusedWithoutChange(t, "link(1, 1000, 2)", () -> t.link(1, 1000, 2), ARGUMENT);
        refusedWithoutChange(t, "link(1, -1, 2)", () -> t.link(1, -1, 2), ARGUMENT);
        refusedWithoutChange(t, "link(3, 5, 2)", () -> t.link(3, 5, 2), STATE);
        PackedTree off = dark();
        refused("link, power off", () -> off.link(1, 1, 2), UNSUPPORTED);
        PackedTree full = nearlyFull(16, 0);
        int name = 100;
        while (full.count(5) <= 109) {
            full.link(1, name++, 2);
        }
        refusedWithoutChange(full, "link without room", () -> full.link(1, 900, 2), STATE);
    }

    private static void unlink() {
        PackedTree t = withFile(96, 64);
        t.make(1, 1, true);
        t.link(3, 5, 2);
        t.fill(2, 0, 1, 168);
        due("blocks with a data block, two leaves, a root node", () -> t.count(0), 5);
        due("items with POINTERS and TAIL", () -> t.count(4), 8);
        refusedWithoutChange(t, "unlink(2, 0)", () -> t.unlink(2, 0), INDEX);
        refusedWithoutChange(t, "unlink(1, 7)", () -> t.unlink(1, 7), INDEX);
        refusedWithoutChange(t, "unlink(1, -1)", () -> t.unlink(1, -1), INDEX);
        refusedWithoutChange(t, "unlink(1, 1000)", () -> t.unlink(1, 1000), INDEX);
        refusedWithoutChange(t, "unlink(1, 8005)", () -> t.unlink(1, 8005), INDEX);
        refusedWithoutChange(t, "unlink(9, 1)", () -> t.unlink(9, 1), INDEX);
        refusedWithoutChange(t, "unlink a directory with entries", () -> t.unlink(1, 1), STATE);
        due("unlink(1, 0)", () -> t.unlink(1, 0), 1);
        due("about(2, 1)", () -> t.about(2, 1), 1);
        due("read(2, 167)", () -> t.read(2, 167), 1 + 7 * 167 & 255);
        due("unlink(3, 5)", () -> t.unlink(3, 5), 0);
        refused("about(2, 0)", () -> t.about(2, 0), INDEX);
        due("count(0)", () -> t.count(0), 2);
        due("count(4)", () -> t.count(4), 3);
        due("unlink(1, 1)", () -> t.unlink(1, 1), 0);
        due("count(3)", () -> t.count(3), 1);
        due("count(5)", () -> t.count(5), 14);
        PackedTree off = dark();
        refused("unlink, power off", () -> off.unlink(1, 0), UNSUPPORTED);
    }

    private static void move() {
        PackedTree t = withFile(96, 64);
        t.make(1, 1, true);
        t.make(3, 1, true);
        t.make(4, 1, true);
        due("move(1, 0, 5, 9)", () -> t.move(1, 0, 5, 9), 2);
        due("look(5, 9)", () -> t.look(5, 9), 2);
        due("look(1, 0)", () -> t.look(1, 0), PackedTree.NONE);
        due("about(1, 2)", () -> t.about(1, 2), 1);
        due("about(5, 2)", () -> t.about(5, 2), 1);
        due("move in one directory", () -> t.move(5, 9, 5, 999), 2);
        due("about(5, 2)", () -> t.about(5, 2), 1);
        due("about(2, 1)", () -> t.about(2, 1), 1);
        refusedWithoutChange(t, "move(2, 1, 1, 5)", () -> t.move(2, 1, 1, 5), INDEX);
        refusedWithoutChange(t, "move(1, 1, 2, 5)", () -> t.move(1, 1, 2, 5), INDEX);
        refusedWithoutChange(t, "move(1, 7, 1, 1000)", () -> t.move(1, 7, 1, 1000), INDEX);
        refusedWithoutChange(t, "move(1, 1000, 1, 5)", () -> t.move(1, 1000, 1, 5), INDEX);
        refusedWithoutChange(t, "move(1, 1, 1, 1000)", () -> t.move(1, 1, 1, 1000), ARGUMENT);
        refusedWithoutChange(t, "move(1, 1, 1, -1)", () -> t.move(1, 1, 1, -1), ARGUMENT);
        refusedWithoutChange(t, "move to itself", () -> t.move(1, 1, 1, 1), STATE);
        refusedWithoutChange(t, "move on a name that is there", () -> t.move(5, 999, 1, 1), STATE);
        refusedWithoutChange(t, "move into itself", () -> t.move(1, 1, 3, 8), STATE);
        refusedWithoutChange(t, "move into a child", () -> t.move(1, 1, 4, 8), STATE);
        refusedWithoutChange(t, "move into a grandchild", () -> t.move(1, 1, 5, 8), STATE);
        due("move a directory up", () -> t.move(3, 1, 1, 8), 4);
        due("move into a former child", () -> t.move(1, 1, 5, 8), 3);
        refused("move into what it is in now", () -> t.move(1, 8, 3, 8), STATE);
        PackedTree off = dark();
        refused("move, power off", () -> off.move(1, 0, 1, 7), UNSUPPORTED);
        moveWithoutRoom();
    }

    /** Two leaves, the first of them full: an entry of the second one finds no room in it. */
    private static void moveWithoutRoom() {
        PackedTree t = withFile(16, 64);
        for (int k = 1; k <= 12; k++) {
            t.link(1, k * 10, 2);
        }
        t.make(1, 5, true);
        t.link(3, 1, 2);
        t.fill(2, 0, 1, 512);
        t.fill(2, 512, 1, 512);
        int size = 1024;
        while (t.count(0) < 16) {
            size = t.fill(2, size, 1, 128);
        }
        int name = 1;
        try {
            while (name < 100) {
                t.link(3, 100 + name, 2);
                name++;
            }
        } catch (IllegalStateException e) {
            name = 0;
        }
        due("links end", () -> t.count(0), 16);
        int refusals = 0;
        for (int k = 1; k <= 12; k++) {
            String before = stateOf(t);
            try {
                t.move(3, 1, 1, k * 10 + 1);
                t.move(1, k * 10 + 1, 3, 1);
            } catch (IllegalStateException e) {
                refusals++;
                due("a refused move changes nothing", () -> before.equals(stateOf(t)) ? 1 : 0, 1);
                break;
            }
        }
        int seen = refusals;
        due("a move finds no room", () -> seen, 1);
    }

    private static void write() {
        PackedTree t = withFile(96, 64);
        due("write(2, 0, .., 8)", () -> t.write(2, 0, 0x8877665544332211L, 8), 8);
        due("read(2, 0)", () -> t.read(2, 0), 0x11);
        due("read(2, 7)", () -> t.read(2, 7), 0x88);
        due("write(2, 3, .., 1)", () -> t.write(2, 3, -1L, 1), 8);
        due("read(2, 3)", () -> t.read(2, 3), 255);
        due("read(2, 4)", () -> t.read(2, 4), 0x55);
        due("write over the end", () -> t.write(2, 6, 0, 5), 11);
        due("about(2, 4)", () -> t.about(2, 4), 11);
        refusedWithoutChange(t, "write(1, 0, 0, 1)", () -> t.write(1, 0, 0, 1), INDEX);
        refusedWithoutChange(t, "write(3, 0, 0, 1)", () -> t.write(3, 0, 0, 1), INDEX);
        refusedWithoutChange(t, "write(2, 12, 0, 0)", () -> t.write(2, 12, 0, 0), INDEX);
        refusedWithoutChange(t, "write(2, -1, 0, 1)", () -> t.write(2, -1, 0, 1), INDEX);
        refusedWithoutChange(t, "write(2, 0, 0, 0)", () -> t.write(2, 0, 0, 0), ARGUMENT);
        refusedWithoutChange(t, "write(2, 0, 0, 9)", () -> t.write(2, 0, 0, 9), ARGUMENT);
        refusedWithoutChange(t, "write(2, 0, 0, least)", () -> t.write(2, 0, 0, Integer.MIN_VALUE), ARGUMENT);
        for (int at = 11; at < 2040; at += 512) {
            t.fill(2, at, 0, Math.min(512, 2041 - at));
        }
        refusedWithoutChange(t, "write(2, 2041, 0, 8)", () -> t.write(2, 2041, 0, 8), ARGUMENT);
        due("write(2, 2041, 0, 7)", () -> t.write(2, 2041, 0, 7), 2048);
        due("write(2, 2040, 0, 8)", () -> t.write(2, 2040, 0, 8), 2048);
        PackedTree off = dark();
        refused("write, power off", () -> off.write(2, 0, 0, 1), UNSUPPORTED);
        PackedTree full = nearlyFull(16, 0);
        int size = full.about(2, 2);
        refusedWithoutChange(full, "write without room", () -> full.write(2, size, 0, 1), STATE);
        due("write in its room", () -> full.write(2, size - 8, 0, 8), size);
    }

    private static void fill() {
        PackedTree t = withFile(96, 64);
        due("fill(2, 0, 250, 40)", () -> t.fill(2, 0, 250, 40), 40);
        due("about(2, 3)", () -> t.about(2, 3), 0);
        due("about(2, 4)", () -> t.about(2, 4), 40);
        due("read(2, 1)", () -> t.read(2, 1), 1);
        due("read(2, 39)", () -> t.read(2, 39), 250 + 7 * 39 & 255);
        due("fill(2, 40, -1, 1)", () -> t.fill(2, 40, -1, 1), 41);
        due("about(2, 3)", () -> t.about(2, 3), 1);
        due("about(2, 4)", () -> t.about(2, 4), 0);
        due("read(2, 40)", () -> t.read(2, 40), 255);
        due("fill(2, 41, 3, 128)", () -> t.fill(2, 41, 3, 128), 169);
        due("about(2, 3)", () -> t.about(2, 3), 2);
        due("cut(2, 168)", () -> t.cut(2, 168), 1);
        due("about(2, 4)", () -> t.about(2, 4), 40);
        due("fill(2, 0, 9, 512)", () -> t.fill(2, 0, 9, 512), 512);
        due("fill(2, 511, greatest, 2)", () -> t.fill(2, 511, Integer.MAX_VALUE, 2), 513);
        due("about(2, 3)", () -> t.about(2, 3), 5);
        due("about(2, 4)", () -> t.about(2, 4), 0);
        due("read(2, 511)", () -> t.read(2, 511), 255);
        due("read(2, 512)", () -> t.read(2, 512), 6);
        refusedWithoutChange(t, "fill(1, 0, 0, 1)", () -> t.fill(1, 0, 0, 1), INDEX);
        refusedWithoutChange(t, "fill(2, 514, 0, 0)", () -> t.fill(2, 514, 0, 0), INDEX);
        refusedWithoutChange(t, "fill(2, greatest, 0, 1)", () -> t.fill(2, Integer.MAX_VALUE, 0, 1), INDEX);
        refusedWithoutChange(t, "fill(2, 0, 0, 0)", () -> t.fill(2, 0, 0, 0), ARGUMENT);
        refusedWithoutChange(t, "fill(2, 0, 0, 513)", () -> t.fill(2, 0, 0, 513), ARGUMENT);
        refusedWithoutChange(t, "fill(2, 1, 0, greatest)", () -> t.fill(2, 1, 0, Integer.MAX_VALUE), ARGUMENT);
        t.fill(2, 513, 0, 512);
        t.fill(2, 1025, 0, 512);
        refusedWithoutChange(t, "fill(2, 1537, 0, 512)", () -> t.fill(2, 1537, 0, 512), ARGUMENT);
        due("fill(2, 1537, 0, 511)", () -> t.fill(2, 1537, 0, 511), 2048);
        PackedTree off = dark();
        refused("fill, power off", () -> off.fill(2, 0, 0, 1), UNSUPPORTED);
        PackedTree full = nearlyFull(16, 1);
        int size = full.about(2, 2);
        refusedWithoutChange(full, "fill without room", () -> full.fill(2, size, 0, 129), STATE);
        due("fill with room", () -> full.fill(2, size, 0, 128), size + 128);
    }

    private static void cut() {
        PackedTree t = withFile(96, 64);
        t.fill(2, 0, 1, 300);
        due("cut(2, 300)", () -> t.cut(2, 300), 3);
        due("cut(2, 297)", () -> t.cut(2, 297), 3);
        due("cut(2, 296)", () -> t.cut(2, 296), 2);
        due("about(2, 4)", () -> t.about(2, 4), 40);
        due("read(2, 295)", () -> t.read(2, 295), 1 + 7 * 295 & 255);
        refused("read(2, 296)", () -> t.read(2, 296), INDEX);
        due("cut(2, 256)", () -> t.cut(2, 256), 2);
        due("about(2, 4)", () -> t.about(2, 4), 0);
        due("cut(2, 250)", () -> t.cut(2, 250), 2);
        due("cut(2, 41)", () -> t.cut(2, 41), 1);
        due("cut(2, 40)", () -> t.cut(2, 40), 0);
        due("count(0)", () -> t.count(0), 2);
        refusedWithoutChange(t, "cut(1, 0)", () -> t.cut(1, 0), INDEX);
        refusedWithoutChange(t, "cut(3, -1)", () -> t.cut(3, -1), INDEX);
        refusedWithoutChange(t, "cut(2, 41)", () -> t.cut(2, 41), ARGUMENT);
        refusedWithoutChange(t, "cut(2, -1)", () -> t.cut(2, -1), ARGUMENT);
        due("cut(2, 0)", () -> t.cut(2, 0), 0);
        due("count(4)", () -> t.count(4), 3);
        PackedTree off = dark();
        refused("cut, power off", () -> off.cut(2, 0), UNSUPPORTED);
        cutBytesAreNoMore();
        cutFromTheGreatestSize();
        cutWithoutRoom();
    }

    /** What was cut off leaves 0 in the data block: a commit that finds it so again has nothing CHANGED. */
    private static void cutBytesAreNoMore() {
        PackedTree t = withFile(96, 64);
        t.fill(2, 0, 1, 100);
        t.commit();
        t.fill(2, 100, 9, 20);
        due("count(6) after a longer file", () -> t.count(6), 2);
        t.cut(2, 100);
        due("count(6) after the cut", () -> t.count(6), 0);
    }

    private static void cutFromTheGreatestSize() {
        PackedTree t = withFile(96, 64);
        for (int at = 0; at < 2048; at += 512) {
            t.fill(2, at, at, 512);
        }
        due("cut(2, 2048)", () -> t.cut(2, 2048), 16);
        due("cut(2, 2047)", () -> t.cut(2, 2047), 16);
        due("cut(2, 513)", () -> t.cut(2, 513), 5);
        due("about(2, 4)", () -> t.about(2, 4), 0);
        due("cut(2, 512)", () -> t.cut(2, 512), 4);
        due("cut(2, 424)", () -> t.cut(2, 424), 3);
        due("about(2, 4)", () -> t.about(2, 4), 40);
        due("read(2, 423)", () -> t.read(2, 423), 7 * 423 & 255);
    }

    /** A TAIL in place of data needs a leaf and a root node more, and the data block that is free then is but one. */
    private static void cutWithoutRoom() {
        PackedTree t = withFile(16, 64);
        t.make(1, 1, false);
        t.fill(3, 0, 1, 60);
        for (int at = 0; at < 13 * 128; at += 128) {
            t.fill(2, at, 1, 128);
        }
        t.link(1, 2, 2);
        due("count(0)", () -> t.count(0), 16);
        due("count(5)", () -> t.count(5), 119);
        refusedWithoutChange(t, "cut without room", () -> t.cut(3, 40), STATE);
        due("cut that has room", () -> t.cut(3, 1), 0);
        due("count(5)", () -> t.count(5), 118);
    }

    private static void read() {
        PackedTree t = withFile(96, 64);
        t.fill(2, 0, 200, 150);
        due("read(2, 0)", () -> t.read(2, 0), 200);
        due("read(2, 127)", () -> t.read(2, 127), 200 + 7 * 127 & 255);
        due("read(2, 128)", () -> t.read(2, 128), 200 + 7 * 128 & 255);
        due("read(2, 149)", () -> t.read(2, 149), 200 + 7 * 149 & 255);
        refused("read(2, 150)", () -> t.read(2, 150), INDEX);
        refused("read(2, -1)", () -> t.read(2, -1), INDEX);
        refused("read(1, 0)", () -> t.read(1, 0), INDEX);
        refused("read(0, 0)", () -> t.read(0, 0), INDEX);
        refused("read(61, 0)", () -> t.read(61, 0), INDEX);
        PackedTree off = dark();
        refused("read, power off", () -> off.read(99, 0), UNSUPPORTED);
    }

    private static void look() {
        PackedTree t = withFile(96, 64);
        t.make(1, 5, true);
        t.fill(2, 0, 1, 140);
        due("look(1, 5)", () -> t.look(1, 5), 3);
        due("look(1, 6)", () -> t.look(1, 6), PackedTree.NONE);
        due("look(1, -1)", () -> t.look(1, -1), PackedTree.NONE);
        due("look(1, -1000)", () -> t.look(1, -1000), PackedTree.NONE);
        due("look(1, 1000)", () -> t.look(1, 1000), PackedTree.NONE);
        due("look(1, 4000)", () -> t.look(1, 4000), PackedTree.NONE);
        due("look(3, 0)", () -> t.look(3, 0), PackedTree.NONE);
        t.make(3, 7, true);
        due("look(1, 8007) is no name of object 3", () -> t.look(1, 8007), PackedTree.NONE);
        due("look(3, 5 - 8000) is no name of object 1", () -> t.look(3, 5 - 8000), PackedTree.NONE);
        refused("look(2, 5)", () -> t.look(2, 5), INDEX);
        refused("look(5, 5)", () -> t.look(5, 5), INDEX);
        PackedTree off = dark();
        refused("look, power off", () -> off.look(1, 0), UNSUPPORTED);
    }

    private static void name() {
        PackedTree t = withFile(96, 64);
        t.make(1, 999, true);
        for (int k = 30; k > 0; k--) {
            t.link(3, k * 7, 2);
        }
        due("name(1, 0)", () -> t.name(1, 0), 0);
        due("name(1, 1)", () -> t.name(1, 1), 999);
        for (int k = 0; k < 30; k++) {
            int at = k;
            due("name(3, " + k + ")", () -> t.name(3, at), 7 * (at + 1));
        }
        refused("name(3, 30)", () -> t.name(3, 30), INDEX);
        refused("name(3, -1)", () -> t.name(3, -1), INDEX);
        refused("name(3, greatest)", () -> t.name(3, Integer.MAX_VALUE), INDEX);
        refused("name(1, 2)", () -> t.name(1, 2), INDEX);
        refused("name(2, 0)", () -> t.name(2, 0), INDEX);
        PackedTree off = dark();
        refused("name, power off", () -> off.name(1, 0), UNSUPPORTED);
    }

    private static void about() {
        PackedTree t = withFile(96, 64);
        t.fill(2, 0, 1, 296);
        due("about(2, 0)", () -> t.about(2, 0), 1);
        due("about(2, 1)", () -> t.about(2, 1), 1);
        due("about(2, 2)", () -> t.about(2, 2), 296);
        due("about(2, 3)", () -> t.about(2, 3), 2);
        due("about(2, 4)", () -> t.about(2, 4), 40);
        due("about(2, 5)", () -> t.about(2, 5), 2);
        due("about(2, 6)", () -> t.about(2, 6), 3);
        refused("about(2, 7)", () -> t.about(2, 7), INDEX);
        refused("about(2, greatest)", () -> t.about(2, Integer.MAX_VALUE), INDEX);
        refused("about(2, -1)", () -> t.about(2, -1), ARGUMENT);
        refused("about(2, least)", () -> t.about(2, Integer.MIN_VALUE), ARGUMENT);
        refused("about(3, -1)", () -> t.about(3, -1), INDEX);
        refused("about(0, 0)", () -> t.about(0, 0), INDEX);
        refused("about(61, 0)", () -> t.about(61, 0), INDEX);
        due("about(1, 0)", () -> t.about(1, 0), 0);
        due("about(1, 1)", () -> t.about(1, 1), 1);
        due("about(1, 2)", () -> t.about(1, 2), 1);
        due("about(1, 3)", () -> t.about(1, 3), 0);
        due("about(1, 4)", () -> t.about(1, 4), 0);
        refused("about(1, 5)", () -> t.about(1, 5), INDEX);
        PackedTree off = dark();
        refused("about, power off", () -> off.about(99, -1), UNSUPPORTED);
    }

    /** Leaves that give way, split, join, and inner nodes above them. */
    private static void node() {
        PackedTree t = withFile(96, 64);
        for (int k = 1; k <= 6; k++) {
            t.link(1, 10 * k, 2);
        }
        due("USED of one leaf", () -> t.node(0, 0, 2), 14 + 7 * 11 + 14);
        t.link(1, 70, 2);
        due("USED of a leaf with 116", () -> t.node(0, 0, 2), 116);
        refused("node(0, 1, 0)", () -> t.node(0, 1, 0), INDEX);
        refused("node(1, 0, 0)", () -> t.node(1, 0, 0), INDEX);
        t.link(1, 5, 2);
        due("a new leaf has the last item", () -> t.node(0, 1, 1), 1);
        due("a new leaf's USED", () -> t.node(0, 1, 2), 14);
        due("a new leaf's block", () -> t.node(0, 1, 0), 2);
        due("the root node's block", () -> t.node(1, 0, 0), 3);
        due("the root node's children", () -> t.node(1, 0, 1), 2);
        due("the root node's USED", () -> t.node(1, 0, 2), 0);
        due("the root node's parent", () -> t.node(1, 0, 3), PackedTree.NONE);
        due("a leaf's parent", () -> t.node(0, 0, 3), 3);
        t.link(1, 6, 2);
        due("a leaf that has 113", () -> t.node(0, 0, 2), 113);
        due("the leaf behind got one", () -> t.node(0, 1, 2), 25);
        refused("node(0, 2, 9)", () -> t.node(0, 2, 9), INDEX);
        refused("node(2, 0, 0)", () -> t.node(2, 0, 0), INDEX);
        refused("node(-1, 0, 0)", () -> t.node(-1, 0, 0), INDEX);
        refused("node(0, -1, 0)", () -> t.node(0, -1, 0), INDEX);
        refused("node(0, greatest, 0)", () -> t.node(0, Integer.MAX_VALUE, 0), INDEX);
        refused("node(greatest, 0, 0)", () -> t.node(Integer.MAX_VALUE, 0, 0), INDEX);
        refused("node(0, 0, 4)", () -> t.node(0, 0, 4), ARGUMENT);
        refused("node(0, 0, -1)", () -> t.node(0, 0, -1), ARGUMENT);
        PackedTree off = dark();
        refused("node, power off", () -> off.node(0, 0, 0), UNSUPPORTED);
        joining(t);
        innerNodes();
    }

    /** The first leaf has 113, the second one 25: they join when they have 72 together or less. */
    private static void joining(PackedTree t) {
        int[] names = {0, 5, 6, 10, 20, 30};
        for (int k = 0; k < names.length; k++) {
            int name = names[k];
            int left = names.length + 3 - k;
            int joined = 113 + 25 - 11 * (k + 1) <= 72 ? 1 : 2;
            due("unlink(1, " + name + ")", () -> t.unlink(1, name), left);
            due("leaves", () -> t.count(1), joined);
        }
        due("blocks when they have joined", () -> t.count(0), 2);
        due("heights when they have joined", () -> t.count(2), 1);
        due("USED when they have joined", () -> t.count(5), 72);
    }

    private static void innerNodes() {
        PackedTree t = withFile(96, 64);
        int name = 1;
        while (t.count(1) < 5) {
            t.link(1, name++, 2);
        }
        due("children of a full root node", () -> t.node(1, 0, 1), 5);
        int next = name;
        while (t.count(1) < 6) {
            t.link(1, next++, 2);
        }
        due("heights", () -> t.count(2), 3);
        due("the old node keeps three", () -> t.node(1, 0, 1), 3);
        due("the new node gets three", () -> t.node(1, 1, 1), 3);
        due("the old node's block", () -> t.node(1, 0, 0), 3);
        due("the new leaf's block", () -> t.node(0, 5, 0), 7);
        due("the new node's block", () -> t.node(1, 1, 0), 8);
        due("the new root node's block", () -> t.node(2, 0, 0), 9);
        due("the new root node's children", () -> t.node(2, 0, 1), 2);
        while (t.count(1) > 1) {
            t.unlink(1, t.name(1, 1));
        }
        due("heights at last", () -> t.count(2), 1);
        due("blocks at last", () -> t.count(0), 2);
    }

    private static void item() {
        PackedTree t = withFile(96, 64);
        t.make(1, 7, true);
        t.fill(2, 0, 1, 130);
        long[][] all = {{1, 0, 0, 6, 1}, {1, 1, 0, 3, 1}, {1, 1, 7, 3, 1}, {2, 0, 0, 6, 1}, {2, 2, 0, 2, 1},
            {2, 3, 0, 2, 1}, {3, 0, 0, 6, 1}};
        for (int k = 0; k < all.length; k++) {
            for (int what = 0; what <= 4; what++) {
                int at = k;
                int of = what;
                due("item(" + k + ", " + what + ")", () -> t.item(at, of), all[k][what]);
            }
        }
        refused("item(7, 0)", () -> t.item(7, 0), INDEX);
        refused("item(7, 9)", () -> t.item(7, 9), INDEX);
        refused("item(-1, 0)", () -> t.item(-1, 0), INDEX);
        refused("item(greatest, 0)", () -> t.item(Integer.MAX_VALUE, 0), INDEX);
        refused("item(0, 5)", () -> t.item(0, 5), ARGUMENT);
        refused("item(0, -1)", () -> t.item(0, -1), ARGUMENT);
        t.fill(2, 0, 1, 168);
        due("leaves with a greater TAIL", () -> t.count(1), 2);
        due("the new leaf has STAT", () -> t.item(6, 4), 3);
        due("the item before is where it was", () -> t.item(4, 4), 1);
        PackedTree off = dark();
        refused("item, power off", () -> off.item(0, 0), UNSUPPORTED);
    }

    private static void commit() {
        PackedTree t = withFile(96, 8);
        due("count(6)", () -> t.count(6), 1);
        due("commit()", t::commit, 3);
        due("commit() again", t::commit, 0);
        due("count(9)", () -> t.count(9), 1);
        due("count(7)", () -> t.count(7), 3);
        t.fill(2, 0, 1, 200);
        due("commit() of block 0, a leaf, two data blocks, behind a checkpoint", t::commit, 2 + 6);
        due("count(7)", () -> t.count(7), 6);
        t.write(2, 0, 1, 1);
        due("count(6): the same byte", () -> t.count(6), 0);
        t.write(2, 0, 2, 1);
        due("count(6): another byte", () -> t.count(6), 1);
        due("commit() behind a checkpoint of four", t::commit, 5 + 3);
        due("count(8)", () -> t.count(8), 3 + 8 + 8);
        t.fill(2, 200, 1, 512);
        due("count(6)", () -> t.count(6), 7);
        refusedWithoutChange(t, "commit() of too many", t::commit, STATE);
        due("back()", t::back, 7);
        due("commit()", t::commit, 0);
        PackedTree off = dark();
        refused("commit, power off", off::commit, UNSUPPORTED);
        commitOfOtherThings();
        commitThatIsCut();
    }

    /** Blocks that come back as they were, and blocks that are nodes where data were. */
    private static void commitOfOtherThings() {
        PackedTree t = withFile(96, 64);
        t.make(1, 1, false);
        t.fill(2, 0, 5, 128);
        t.commit();
        t.cut(2, 0);
        t.fill(3, 0, 5, 128);
        due("the same bytes in the same block for another file: the leaf alone", () -> t.count(6), 1);
        t.back();
        t.unlink(1, 0);
        due("a free block is not CHANGED, block 0 and the leaf are", () -> t.count(6), 2);
        t.back();
        t.cut(2, 0);
        int name = 100;
        while (t.count(1) == 1) {
            t.link(1, name++, 2);
        }
        due("a leaf where data were", () -> t.node(0, 1, 0), 2);
        due("block 0, both leaves, the root node", () -> t.count(6), 4);
        firstKeys();
    }

    /** An inner node has the first key below each child in it. */
    private static void firstKeys() {
        PackedTree t = withFile(96, 64);
        for (int k = 10; k < 19; k++) {
            t.link(1, k, 2);
        }
        due("leaves", () -> t.count(1), 2);
        t.commit();
        t.link(1, 20, 2);
        due("an item behind the first of the last leaf", () -> t.count(6), 2);
        t.commit();
        t.link(1, 5, 2);
        due("an item that pushes one to the leaf behind", () -> t.count(6), 3);
    }

    private static void commitThatIsCut() {
        for (int n = 0; n <= 5; n++) {
            PackedTree t = withFile(96, 64);
            t.commit();
            t.fill(2, 0, 1, 100);
            int done = n;
            t.fail(n);
            due("commit() of five writes, fail(" + n + ")", t::commit, Math.min(n, 5));
            due("off()", () -> t.off() ? 1 : 0, done < 5 ? 1 : 0);
            if (n < 5) {
                due("recover()", t::recover, 2);
            }
            due("SIZE", () -> t.about(2, 2), n < 5 ? 0 : 100);
            due("count(9)", () -> t.count(9), n < 5 ? 1 : 2);
            due("count(7)", () -> t.count(7), n < 5 ? 0 : 8);
            due("count(8)", () -> t.count(8), n < 5 ? 3 + n + 2 : 8);
        }
    }

    private static void checkpoint() {
        PackedTree t = withFile(96, 64);
        due("checkpoint() of nothing", t::checkpoint, 0);
        t.fill(2, 0, 1, 100);
        t.commit();
        t.unlink(1, 0);
        due("commit() with a block that is free", t::commit, 4);
        due("count(7)", () -> t.count(7), 9);
        due("checkpoint() writes each block once, the free one too", t::checkpoint, 4);
        due("count(7)", () -> t.count(7), 0);
        due("checkpoint() again", t::checkpoint, 0);
        due("count(8)", () -> t.count(8), 13);
        t.make(1, 1, false);
        due("what is not committed is not in it", t::checkpoint, 0);
        t.commit();
        t.fail(1);
        due("checkpoint() without the last write", t::checkpoint, 1);
        refused("checkpoint, power off", t::checkpoint, UNSUPPORTED);
        due("recover() does it all", t::recover, 2);
        due("look(1, 1)", () -> t.look(1, 1), 2);
    }

    private static void back() {
        PackedTree t = withFile(96, 64);
        t.fill(2, 0, 1, 100);
        due("back() to the beginning", t::back, 3);
        due("count(3)", () -> t.count(3), 1);
        due("count(0)", () -> t.count(0), 2);
        t.make(1, 1, false);
        t.fill(2, 0, 1, 30);
        t.commit();
        String committed = stateOf(t);
        due("back() from nothing", t::back, 0);
        t.write(2, 3, 0, 1);
        t.make(1, 2, true);
        t.fill(2, 30, 8, 300);
        due("back() from data and leaves", t::back, 5);
        due("all is as it was", () -> committed.equals(stateOf(t)) ? 1 : 0, 1);
        due("no write was done", () -> t.count(8), 3);
        PackedTree off = dark();
        refused("back, power off", off::back, UNSUPPORTED);
    }

    private static long fails(PackedTree t, int n) {
        t.fail(n);
        return 0;
    }

    private static void fail() {
        PackedTree t = withFile(96, 64);
        refusedWithoutChange(t, "fail(-2)", () -> fails(t, -2), ARGUMENT);
        refusedWithoutChange(t, "fail(least)", () -> fails(t, Integer.MIN_VALUE), ARGUMENT);
        due("fail(0)", () -> fails(t, 0), 0);
        due("off() before any write", () -> t.off() ? 1 : 0, 0);
        due("fail(NONE)", () -> fails(t, PackedTree.NONE), 0);
        due("commit()", t::commit, 3);
        t.fail(4);
        due("a checkpoint of two", t::checkpoint, 2);
        t.make(1, 1, false);
        due("two writes are left", t::commit, 2);
        due("off()", () -> t.off() ? 1 : 0, 1);
        due("fail(-2) while OFF", () -> t.off() ? fails(t, 0) : 1, 0);
        refused("fail(-2) while OFF", () -> fails(t, -2), ARGUMENT);
        due("recover() without a write", t::recover, 0);
        t.make(1, 1, false);
        due("the FAIL told while OFF", t::commit, 0);
        due("off()", () -> t.off() ? 1 : 0, 1);
        due("recover()", t::recover, 0);
        t.make(1, 1, false);
        due("no FAIL is told any more", t::commit, 3);
        t.fail(Integer.MAX_VALUE);
        due("checkpoint()", t::checkpoint, 2);
    }

    private static void off() {
        PackedTree t = withFile(96, 64);
        due("off() at first", () -> t.off() ? 1 : 0, 0);
        t.fail(0);
        due("off() behind fail(0)", () -> t.off() ? 1 : 0, 0);
        t.commit();
        due("off() behind the write that is not done", () -> t.off() ? 1 : 0, 1);
        t.recover();
        due("off() behind recover()", () -> t.off() ? 1 : 0, 0);
    }

    private static void recover() {
        PackedTree t = withFile(96, 64);
        refusedWithoutChange(t, "recover(), power on", t::recover, STATE);
        t.fill(2, 0, 1, 30);
        t.commit();
        t.fill(2, 0, 1, 300);
        t.fail(2);
        t.commit();
        t.fail(1);
        due("recover() goes OFF again", t::recover, 1);
        due("off()", () -> t.off() ? 1 : 0, 1);
        refused("about, power off", () -> t.about(2, 2), UNSUPPORTED);
        due("recover()", t::recover, 2);
        due("SIZE as committed", () -> t.about(2, 2), 30);
        due("nothing is CHANGED", () -> t.count(6), 0);
        due("count(7)", () -> t.count(7), 0);
        due("count(8)", () -> t.count(8), 3 + 2 + 1 + 2);
        due("count(9)", () -> t.count(9), 1);
        refused("recover() again", t::recover, STATE);
        recoverBehindCheckpointOfCommit();
    }

    /** The checkpoint that a commit needs first may be done when the commit itself is not. */
    private static void recoverBehindCheckpointOfCommit() {
        PackedTree t = withFile(96, 6);
        t.commit();
        t.make(1, 1, false);
        t.commit();
        t.make(1, 2, false);
        t.fail(3);
        due("a checkpoint of two writes and one that begins", t::commit, 3);
        due("recover() finds an empty journal", t::recover, 0);
        due("count(3)", () -> t.count(3), 3);
        t.make(1, 2, false);
        due("commit()", t::commit, 3);
        t.make(1, 3, true);
        t.commit();
        t.make(1, 4, true);
        t.fail(1);
        due("the checkpoint is not done", t::commit, 1);
        due("recover()", t::recover, 2);
        due("count(3)", () -> t.count(3), 5);
    }

    private static void count() {
        PackedTree t = withFile(96, 64);
        t.fill(2, 0, 1, 300);
        for (int k = 1; k <= 8; k++) {
            t.link(1, k, 2);
        }
        long[] all = {7, 2, 2, 2, 12, 14 + 9 * 11 + 14 + 14, 7, 0, 0, 0};
        for (int what = 0; what <= 9; what++) {
            int of = what;
            due("count(" + what + ")", () -> t.count(of), all[what]);
        }
        t.commit();
        due("count(6)", () -> t.count(6), 0);
        due("count(7)", () -> t.count(7), 9);
        due("count(8)", () -> t.count(8), 9);
        due("count(9)", () -> t.count(9), 1);
        refused("count(-1)", () -> t.count(-1), ARGUMENT);
        refused("count(10)", () -> t.count(10), ARGUMENT);
        PackedTree off = dark();
        refused("count, power off", () -> off.count(99), UNSUPPORTED);
    }

    private static void run(String number, Runnable test) {
        promise = number;
        test.run();
    }

    public static void main(String[] args) {
        run("1", PromisesTest::newObject);
        run("2", PromisesTest::make);
        run("3", PromisesTest::link);
        run("4", PromisesTest::unlink);
        run("5", PromisesTest::move);
        run("6", PromisesTest::write);
        run("7", PromisesTest::fill);
        run("8", PromisesTest::cut);
        run("9", PromisesTest::read);
        run("10", PromisesTest::look);
        run("11", PromisesTest::name);
        run("12", PromisesTest::about);
        run("13", PromisesTest::node);
        run("14", PromisesTest::item);
        run("15", PromisesTest::commit);
        run("16", PromisesTest::checkpoint);
        run("17", PromisesTest::back);
        run("18", PromisesTest::fail);
        run("19", PromisesTest::off);
        run("20", PromisesTest::recover);
        run("21", PromisesTest::count);
        System.out.println(checks + " checks, " + wrong + " wrong");
        if (wrong != 0) {
            System.exit(1);
        }
    }
}

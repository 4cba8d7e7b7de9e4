import java.util.Random;

/** Long runs of calls, PackedTree beside PlainModel: every answer, every exception and the whole state must agree. */
public final class ModelTest {
    private static final int LOOKS = 9;
    private final PackedTree tree;
    private final PlainModel model;
    private final Random random;
    private final StringBuilder told = new StringBuilder();
    private final int names;
    private final int shape;
    private boolean growing = true;
    private static int heights = 0;
    private static int refused = 0;
    private static int outages = 0;

    private interface Call {
        long answer();
    }

    private ModelTest(Random random) {
        this(someBlocks(random), someJournal(random), random);
    }

    private static int someBlocks(Random random) {
        return random.nextInt(3) == 0 ? 10 + random.nextInt(30) : 16 + random.nextInt(90);
    }

    private static int someJournal(Random random) {
        return random.nextInt(3) == 0 ? random.nextInt(20) : 20 + random.nextInt(60);
    }

    private ModelTest(int blocks, int journal, Random random) {
        this.random = random;
        names = random.nextBoolean() ? 12 : 1000;
        shape = random.nextInt(4);
        told.append("new PackedTree(").append(blocks).append(", ").append(journal).append(")\n");
        tree = new PackedTree(blocks, journal);
        model = new PlainModel(blocks, journal);
    }

    private static String outcome(Call call) {
        try {
            return Long.toString(call.answer());
        } catch (RuntimeException e) {
            return e.getClass().getSimpleName();
        }
    }

    private void same(String text, Call a, Call b) {
        String got = outcome(a);
        String due = outcome(b);
        told.append(text).append(" -> ").append(due).append('\n');
        if (due.equals("IllegalStateException")) {
            refused++;
        }
        if (!got.equals(due)) {
            throw new AssertionError(told + "but it answered " + got);
        }
    }

    private int any(int below) {
        return random.nextInt(below);
    }

    /** Mostly a directory that is there. */
    private int someDirectory() {
        return some(true);
    }

    private int someFile() {
        return some(false);
    }

    private int some(boolean directory) {
        if (any(40) == 0) {
            return any(64) - 1;
        }
        int start = 1 + any(60);
        for (int i = 0; i < 60; i++) {
            int n = 1 + (start + i) % 60;
            PlainModel.Thing t = model.world.things.get(n);
            if (t != null && t.directory == directory) {
                return n;
            }
        }
        return 2;
    }

    private int someName() {
        return any(50) == 0 ? any(1010) - 5 : any(names);
    }

    /** Mostly a name that the directory has. */
    private int nameIn(int dir) {
        PlainModel.Thing t = model.world.things.get(dir);
        if (any(12) == 0 || t == null || t.entries.isEmpty()) {
            return someName();
        }
        Integer name = t.entries.ceilingKey(any(names));
        return name == null ? t.entries.firstKey() : name;
    }

    private int sizeOf(int file) {
        PlainModel.Thing t = model.world.things.get(file);
        return t == null ? 0 : t.size();
    }

    private void oneCall() {
        if (any(150) == 0) {
            growing = !growing;
        }
        int kind = any(100);
        if (kind < 62) {
            changeTree(any(10) < 8 == growing);
        } else if (kind < 80) {
            ask();
        } else {
            keepSafe();
        }
    }

    private void changeTree(boolean more) {
        int kind = any(10);
        if (kind < 2) {
            move();
        } else if (more && (shape == 0 ? kind < 8 : shape == 1 ? kind < 3 : kind < 5)) {
            link();
        } else if (more && kind < 6) {
            make();
        } else if (more) {
            grow();
        } else if (kind < 6) {
            int dir = someDirectory();
            int name = nameIn(dir);
            same("unlink(" + dir + ", " + name + ")", () -> tree.unlink(dir, name), () -> model.unlink(dir, name));
        } else {
            int file = someFile();
            int size = any(30) == 0 ? sizeOf(file) + 3 - any(6) : any(sizeOf(file) + 1);
            same("cut(" + file + ", " + size + ")", () -> tree.cut(file, size), () -> model.cut(file, size));
        }
    }

    private void make() {
        int dir = someDirectory();
        int name = someName();
        boolean directory = any(4) == 0;
        same("make(" + dir + ", " + name + ", " + directory + ")", () -> tree.make(dir, name, directory),
                () -> model.make(dir, name, directory));
    }

    private void link() {
        int dir = someDirectory();
        int name = someName();
        int file = someFile();
        same("link(" + dir + ", " + name + ", " + file + ")", () -> tree.link(dir, name, file),
                () -> model.link(dir, name, file));
    }

    private void move() {
        int dir = someDirectory();
        int name = nameIn(dir);
        int to = any(3) == 0 ? dir : someDirectory();
        int as = any(8) == 0 ? name : someName();
        same("move(" + dir + ", " + name + ", " + to + ", " + as + ")", () -> tree.move(dir, name, to, as),
                () -> model.move(dir, name, to, as));
    }

    private void grow() {
        int file = someFile();
        int at = any(3) > 0 ? sizeOf(file) : any(sizeOf(file) + 2) - any(2);
        if (any(3) == 0) {
            int n = any(20) == 0 ? any(20) - 5 : 1 + any(8);
            long w = random.nextLong();
            same("write(" + file + ", " + at + ", " + w + "L, " + n + ")", () -> tree.write(file, at, w, n),
                    () -> model.write(file, at, w, n));
            return;
        }
        int n = any(20) == 0 ? any(1030) - 5 : 1 + any(any(2) == 0 && shape != 3 ? 512 : 45);
        int seed = any(3) == 0 ? random.nextInt() : any(3);
        same("fill(" + file + ", " + at + ", " + seed + ", " + n + ")", () -> tree.fill(file, at, seed, n),
                () -> model.fill(file, at, seed, n));
    }

    private void ask() {
        int object = any(2) == 0 ? someFile() : someDirectory();
        int name = any(4) == 0 ? nameIn(object) : someName();
        int k = any(2100) - 10;
        int few = any(14) - 2;
        int height = any(6) - 1;
        same("read(" + object + ", " + k + ")", () -> tree.read(object, k), () -> model.read(object, k));
        same("look(" + object + ", " + name + ")", () -> tree.look(object, name), () -> model.look(object, name));
        same("name(" + object + ", " + few + ")", () -> tree.name(object, few), () -> model.name(object, few));
        same("about(" + object + ", " + few + ")", () -> tree.about(object, few), () -> model.about(object, few));
        same("node(" + height + ", " + few + ", " + any(1) + ")", () -> tree.node(height, few, 0),
                () -> model.node(height, few, 0));
        same("item(" + few + ", 7)", () -> tree.item(few, 7), () -> model.item(few, 7));
        same("count(" + few + ")", () -> tree.count(few), () -> model.count(few));
    }

    private void keepSafe() {
        int kind = any(40);
        if (kind < 20) {
            same("commit()", tree::commit, model::commit);
        } else if (kind < 23) {
            same("checkpoint()", tree::checkpoint, model::checkpoint);
        } else if (kind < 24) {
            same("back()", tree::back, model::back);
        } else if (kind < 28) {
            int n = any(12) == 0 ? -2 : any(5) == 0 ? -1 : any(any(2) == 0 ? 8 : 60);
            same("fail(" + n + ")", () -> told(n), () -> model.fail(n));
        } else if (kind < 30) {
            same("recover()", tree::recover, model::recover);
        }
        for (int tries = 0; tries < 5 && model.off; tries++) {
            outages++;
            int n = any(4) - 1 + any(2) * any(12);
            if (any(2) == 0) {
                same("fail(" + n + ")", () -> told(n), () -> model.fail(n));
            }
            same("count(8)", () -> tree.count(8), () -> model.count(8));
            same("recover()", tree::recover, model::recover);
        }
        same("off()", () -> tree.off() ? 1 : 0, () -> model.off ? 1 : 0);
    }

    private long told(int n) {
        tree.fail(n);
        return 0;
    }

    private void sameState() {
        if (model.off) {
            return;
        }
        heights = Math.max(heights, model.count(2));
        for (int what = 0; what <= LOOKS; what++) {
            int w = what;
            agree("count " + w, tree.count(w), model.count(w));
        }
        for (int h = 0; h < model.count(2); h++) {
            int k = 0;
            for (PlainModel.Node n : model.row(h)) {
                agree("node's block", tree.node(h, k, 0), n.block);
                agree("node's members", tree.node(h, k, 1), n.items.size() + n.kids.size());
                agree("node's USED", tree.node(h, k, 2), n.used());
                PlainModel.Node p = model.parent(n);
                agree("node's parent", tree.node(h, k, 3), p == null ? -1 : p.block);
                k++;
            }
            agree("end of row", outcomeLength(h, k), 1);
        }
        sameItems();
        sameObjects();
    }

    private int outcomeLength(int h, int k) {
        return outcome(() -> tree.node(h, k, 0)).equals("IndexOutOfBoundsException") ? 1 : 0;
    }

    private void sameItems() {
        int k = 0;
        for (PlainModel.Node leaf : model.row(0)) {
            for (PlainModel.Item i : leaf.items) {
                agree("item's object", tree.item(k, 0), i.object);
                agree("item's kind", tree.item(k, 1), i.kind);
                agree("item's name", tree.item(k, 2), i.name);
                agree("item's bytes", tree.item(k, 3), i.bytes);
                agree("item's leaf", tree.item(k, 4), leaf.block);
                k++;
            }
        }
    }

    private void sameObjects() {
        for (int n = 1; n <= 60; n++) {
            PlainModel.Thing t = model.world.things.get(n);
            if (t == null) {
                continue;
            }
            for (int what = 0; what < 5 + t.data.size(); what++) {
                agree("about " + n + " " + what, tree.about(n, what), model.about(n, what));
            }
            int k = 0;
            for (int name : t.entries.keySet()) {
                agree("name " + k, tree.name(n, k), name);
                agree("look " + name, tree.look(n, name), t.entries.get(name));
                k++;
            }
            for (int b = 0; b < t.bytes.size(); b++) {
                agree("byte " + b, tree.read(n, b), t.bytes.get(b));
            }
        }
    }

    private void agree(String what, long got, long due) {
        if (got != due) {
            throw new AssertionError(told + what + " is " + got + ", due is " + due);
        }
    }

    private void run(int calls) {
        for (int i = 0; i < calls; i++) {
            oneCall();
            if (any(10) == 0) {
                sameState();
            }
        }
        sameState();
    }

    /** Inner nodes that come down to one child between neighbours that have five: too rare to wait for. */
    private void runAmongInnerNodes() {
        same("make(1, 0, false)", () -> tree.make(1, 0, false), () -> model.make(1, 0, false));
        for (int i = 0; i < 260; i++) {
            linkRoot(any(1000));
        }
        for (int round = 0; round < 25; round++) {
            for (int i = 0; i < 60 && model.count(0) < 60; i++) {
                linkRoot(any(1000));
            }
            java.util.List<PlainModel.Node> row = model.row(1);
            PlainModel.Node node = row.get(any(4) == 0 ? 0 : any(row.size()));
            fatten(model.neighbour(node, -1));
            fatten(model.neighbour(node, 1));
            thin(node);
            sameState();
            if (model.row(1).contains(node)) {
                fatten(node);
                same("commit()", tree::commit, model::commit);
                split(node);
            }
            same("count(6)", () -> tree.count(6), () -> model.count(6));
        }
    }

    private void linkRoot(int name) {
        same("link(1, " + name + ", 2)", () -> tree.link(1, name, 2), () -> model.link(1, name, 2));
    }

    private void fatten(PlainModel.Node node) {
        for (int i = 0; i < 200 && node != null && node.kids.size() < 5; i++) {
            linkBelow(node);
        }
    }

    private void split(PlainModel.Node node) {
        for (int i = 0; i < 200 && node.kids.size() == 5; i++) {
            linkBelow(node);
        }
        sameState();
    }

    private void linkBelow(PlainModel.Node node) {
        java.util.List<PlainModel.Item> items = node.kids.get(any(node.kids.size())).items;
        int from = items.get(0).name;
        int to = items.get(items.size() - 1).name;
        linkRoot(from + any(Math.max(1, to - from)));
    }

    private void thin(PlainModel.Node node) {
        for (int i = 0; i < 20 + any(40) && model.row(1).contains(node); i++) {
            java.util.List<PlainModel.Item> items = node.kids.get(any(node.kids.size())).items;
            PlainModel.Item item = items.get(any(items.size()));
            if (item.kind == PackedTree.ENTRY) {
                same("unlink(1, " + item.name + ")", () -> tree.unlink(1, item.name), () -> model.unlink(1, item.name));
            }
        }
    }

    public static void main(String[] args) {
        int runs = args.length > 0 ? Integer.parseInt(args[0]) : 150;
        int from = args.length > 1 ? Integer.parseInt(args[1]) : 1;
        for (int seed = from; seed < from + runs; seed++) {
            try {
                new ModelTest(new Random(seed * 7919L)).run(seed % 3 == 0 ? 2000 : 512);
                new ModelTest(96, 64, new Random(seed * 7919L)).runAmongInnerNodes();
            } catch (AssertionError e) {
                System.out.println("run " + seed + ":\n" + e.getMessage());
                System.exit(1);
            }
        }
        System.out.println("all runs agree; greatest tree " + heights + " heights, " + refused + " calls refused, "
                + outages + " outages");
        if (heights < 4 || refused == 0 || outages == 0) {
            System.out.println("the runs are too tame");
            System.exit(1);
        }
    }
}

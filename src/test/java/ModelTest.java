import java.util.List;
import java.util.Random;

/**
 * Runs of calls, PackedTree beside PlainModel: every answer and every exception must agree, and at the end what can be
 * asked of the whole. No object has more than 512 calls.
 */
public final class ModelTest {
    private static final int MOST_CALLS = 512;
    /** So many calls are kept for the questions at the end. */
    private static final int QUESTIONS = 160;
    private final PackedTree tree;
    private final PlainModel model;
    private final Random random;
    private final StringBuilder told = new StringBuilder();
    private final int names;
    private final int shape;
    private boolean growing = true;
    private int calls = 0;
    private static int heights = 0;
    private static int refused = 0;
    private static int outages = 0;

    private ModelTest(Random random) {
        this(someBlocks(random), someJournal(random), random);
    }

    private static int someBlocks(Random random) {
        return random.nextInt(3) == 0 ? 10 + random.nextInt(30) : 16 + random.nextInt(90);
    }

    private static int someJournal(Random random) {
        return random.nextInt(3) == 0 ? random.nextInt(20) : 20 + random.nextInt(60);
    }

    private ModelTest(int blocks, int journal, Random random) {
        this.random = random;
        names = random.nextBoolean() ? 12 : 1000;
        shape = random.nextInt(4);
        told.append("new PackedTree(").append(blocks).append(", ").append(journal).append(")\n");
        tree = new PackedTree(blocks, journal);
        model = new PlainModel(blocks, journal);
    }

    private boolean hasCalls(int left) {
        return calls + left < MOST_CALLS;
    }

    private void same(String name, long... args) {
        if (!hasCalls(0)) {
            return;
        }
        calls++;
        Call call = new Call(name, args);
        String got = call.answer(tree);
        String due = model.answer(call);
        told.append(call).append(" -> ").append(due).append('\n');
        if (due.equals("IllegalStateException")) {
            refused++;
        }
        if (!got.equals(due)) {
            throw new AssertionError(told + "but it answered " + got);
        }
    }

    private int any(int below) {
        return random.nextInt(below);
    }

    /** Mostly a directory, or a file, that is there. */
    private int some(boolean directory) {
        if (any(40) == 0) {
            return any(64) - 1;
        }
        int start = 1 + any(60);
        for (int i = 0; i < 60; i++) {
            int n = 1 + (start + i) % 60;
            PlainModel.Thing t = model.world.things.get(n);
            if (t != null && t.directory == directory) {
                return n;
            }
        }
        return 2;
    }

    private int someName() {
        return any(50) == 0 ? any(1010) - 5 : any(names);
    }

    /** Mostly a name that the directory has. */
    private int nameIn(int dir) {
        PlainModel.Thing t = model.world.things.get(dir);
        if (any(12) == 0 || t == null || t.entries.isEmpty()) {
            return someName();
        }
        Integer name = t.entries.ceilingKey(any(names));
        return name == null ? t.entries.firstKey() : name;
    }

    private int sizeOf(int file) {
        PlainModel.Thing t = model.world.things.get(file);
        return t == null ? 0 : t.size();
    }

    private void oneCall() {
        if (any(120) == 0) {
            growing = !growing;
        }
        int kind = any(100);
        if (kind < 74) {
            changeTree(any(10) < 8 == growing);
        } else if (kind < 84) {
            ask();
        } else {
            keepSafe();
        }
    }

    private void changeTree(boolean more) {
        int kind = any(10);
        if (kind < 2) {
            move();
        } else if (more && (shape == 0 ? kind < 8 : shape == 1 ? kind < 3 : kind < 5)) {
            same("link", some(true), someName(), some(false));
        } else if (more && kind < 6) {
            same("make", some(true), someName(), any(4) == 0 ? 1 : 0);
        } else if (more) {
            grow();
        } else if (kind < 6) {
            int dir = some(true);
            same("unlink", dir, nameIn(dir));
        } else {
            int file = some(false);
            same("cut", file, any(30) == 0 ? sizeOf(file) + 3 - any(6) : any(sizeOf(file) + 1));
        }
    }

    private void move() {
        int dir = some(true);
        int name = nameIn(dir);
        same("move", dir, name, any(3) == 0 ? dir : some(true), any(8) == 0 ? name : someName());
    }

    private void grow() {
        int file = some(false);
        int at = any(3) > 0 ? sizeOf(file) : any(sizeOf(file) + 2) - any(2);
        if (any(3) == 0) {
            same("write", file, at, random.nextLong(), any(20) == 0 ? any(20) - 5 : 1 + any(8));
            return;
        }
        int n = any(20) == 0 ? any(1030) - 5 : 1 + any(any(2) == 0 && shape != 3 ? 512 : 45);
        same("fill", file, at, any(3) == 0 ? random.nextInt() : any(3), n);
    }

    private void ask() {
        int object = some(any(2) == 0);
        int few = any(14) - 2;
        switch (any(7)) {
            case 0 -> same("read", object, any(2100) - 10);
            case 1 -> same("look", object, any(4) == 0 ? nameIn(object) : someName());
            case 2 -> same("name", object, few);
            case 3 -> same("about", object, few);
            case 4 -> same("node", any(6) - 1, few, any(7) - 1);
            case 5 -> same("item", any(30) - 1, any(8) - 1);
            default -> same("count", few);
        }
    }

    private void keepSafe() {
        int kind = any(40);
        if (kind < 20) {
            same("commit");
        } else if (kind < 23) {
            same("checkpoint");
        } else if (kind < 25) {
            same("back");
        } else if (kind < 29) {
            same("fail", any(12) == 0 ? -2 : any(5) == 0 ? -1 : any(any(2) == 0 ? 8 : 60));
        } else if (kind < 31) {
            same("recover");
        } else {
            same("count", 6);
        }
        for (int tries = 0; tries < 5 && model.off; tries++) {
            outages++;
            if (any(2) == 0) {
                same("fail", any(4) - 1 + any(2) * any(12));
            }
            if (any(3) == 0) {
                same("count", 8);
            }
            same("recover");
            same("off");
        }
    }

    /** Counts and nodes first, then items, objects and bytes here and there, as long as there are calls. */
    private void lookAround() {
        if (model.off) {
            return;
        }
        heights = Math.max(heights, model.count(2));
        for (int what = 0; what <= 9; what++) {
            same("count", what);
        }
        for (int h = 0; h < model.count(2); h++) {
            List<PlainModel.Node> row = model.row(h);
            for (int k = 0; k < row.size(); k++) {
                same("node", h, k, 0);
                same("node", h, k, h == 0 ? 2 : 1);
                if (h > 0 || any(3) == 0) {
                    same("node", h, k, 3);
                }
            }
        }
        while (hasCalls(0)) {
            lookAnywhere();
        }
    }

    private void lookAnywhere() {
        int file = some(false);
        int dir = some(true);
        switch (any(6)) {
            case 0 -> same("item", any(model.count(4)), any(5));
            case 1 -> same("about", any(2) == 0 ? file : dir, any(8));
            case 2 -> same("read", file, any(sizeOf(file) + 1));
            case 3 -> same("read", file, Math.max(0, sizeOf(file) - 1 - any(41)));
            case 4 -> same("name", dir, any(sizeOf(dir) + 1));
            default -> same("look", dir, nameIn(dir));
        }
    }

    private void run() {
        int questions = QUESTIONS + any(200);
        while (hasCalls(questions)) {
            oneCall();
        }
        lookAround();
    }

    /** Small files with TAILs and few data blocks are made, then go again: leaves give way and join, one by one. */
    private void runOfSmallFiles() {
        int grown = 20 + any(120);
        for (int k = 0; k < grown; k++) {
            int object = 1 + any(12);
            switch (any(10)) {
                case 0, 1, 2, 3 -> same("make", any(3) == 0 ? object : 1, any(20), any(5) == 0 ? 1 : 0);
                case 4, 5 -> same("link", object, any(20), 1 + any(12));
                default -> same("fill", object, 0, 1, any(2) == 0 ? 1 + any(40) : 128 * (1 + any(3)) + any(41));
            }
        }
        int shrunk = 20 + any(120);
        for (int k = 0; k < shrunk; k++) {
            int object = 1 + any(12);
            switch (any(10)) {
                case 0, 1, 2, 3 -> same("unlink", any(3) == 0 ? object : 1, any(20));
                case 4 -> same("make", 1, any(20), 0);
                case 5, 6, 7 -> same("cut", object, any(3) == 0 ? 128 + any(41) : any(41));
                case 8 -> same("fill", object, 0, 1, 1 + any(170));
                default -> keepSafe();
            }
        }
        lookAround();
    }

    /** Inner nodes that come down to one child between neighbours that have five: too rare to wait for. */
    private void runAmongInnerNodes() {
        same("make", 1, 0, 0);
        int links = 150 + any(80);
        for (int i = 0; i < links; i++) {
            same("link", 1, any(1000), 2);
        }
        while (hasCalls(QUESTIONS + 20) && model.count(2) > 1) {
            List<PlainModel.Node> row = model.row(1);
            PlainModel.Node node = row.get(any(4) == 0 ? 0 : any(row.size()));
            fatten(model.neighbour(node, -1));
            fatten(model.neighbour(node, 1));
            thin(node);
            if (any(3) == 0) {
                same("commit");
            }
            same("count", 6);
        }
        lookAround();
    }

    private void fatten(PlainModel.Node node) {
        while (hasCalls(QUESTIONS) && node != null && node.kids.size() < 5) {
            List<PlainModel.Item> items = node.kids.get(any(node.kids.size())).items;
            int from = items.get(0).name;
            int to = items.get(items.size() - 1).name;
            same("link", 1, from + any(Math.max(1, to - from)), 2);
        }
    }

    private void thin(PlainModel.Node node) {
        for (int tries = 0; tries < 400 && hasCalls(QUESTIONS) && model.row(1).contains(node); tries++) {
            List<PlainModel.Item> items = node.kids.get(any(Math.min(2, node.kids.size()))).items;
            PlainModel.Item item = items.get(any(items.size()));
            if (item.kind == PackedTree.ENTRY) {
                same("unlink", 1, item.name);
            }
        }
    }

    public static void main(String[] args) {
        int runs = args.length > 0 ? Integer.parseInt(args[0]) : 1500;
        int from = args.length > 1 ? Integer.parseInt(args[1]) : 1;
        for (int seed = from; seed < from + runs; seed++) {
            try {
                new ModelTest(new Random(seed * 7919L)).run();
                new ModelTest(new Random(seed * 7919L)).runOfSmallFiles();
                new ModelTest(96, 64, new Random(seed * 7919L)).runAmongInnerNodes();
            } catch (AssertionError e) {
                System.out.println("run " + seed + ":\n" + e.getMessage());
                System.exit(1);
            }
        }
        System.out.println("all runs agree; greatest tree " + heights + " heights, " + refused + " calls refused, "
                + outages + " outages");
        if (heights < 4 || refused == 0 || outages == 0) {
            System.out.println("the runs are too tame");
            System.exit(1);
        }
    }
}

import java.util.Arrays;

/**
 * Files and directories in one balanced tree, with a journal of what was committed and a power that may fail behind
 * any write. DOC.md says what each call answers; its words in capitals are used here in the same sense.
 */
public final class PackedTree {
    public static final int NONE = -1;
    public static final int STAT = 0, ENTRY = 1, POINTERS = 2, TAIL = 3;

    private static final int LEAST_BLOCKS = 16, MOST_BLOCKS = 96, LEAST_JOURNAL = 6, MOST_JOURNAL = 64;
    private static final int BLOCK_BYTES = 128;
    private static final int ROOT_DIRECTORY = 1, MOST_OBJECTS = 60, NAMES = 1000;
    private static final int DIRECTORY = 0, FILE = 1;
    private static final int MOST_SIZE = 2048, MOST_DATA = 16, MOST_TAIL = 40, MOST_SIZE_WITH_TAIL = 512;
    private static final int MOST_WRITE = 8, MOST_FILL = 512, FILL_STEP = 7;
    private static final int ITEM_BYTES = 8, STAT_BYTES = 6, ENTRY_BYTES = 3, POINTER_BYTES = 2;
    private static final int LEAF_BYTES = 120, JOIN_BYTES = 72;
    private static final int MOST_CHILDREN = 5, SPLIT_CHILDREN = 3;
    /** The cheapest items that may be neighbours are eleven in 120 bytes; one more stands there until it is relieved. */
    private static final int SLOTS = 14;
    private static final int CHILD_SLOTS = MOST_CHILDREN + 1;
    /** Seven heights of nodes with two children each would need 127 blocks. */
    private static final int MOST_HEIGHTS = 8;
    private static final int FREE = 0, MAP = 1, LEAF = 2, INNER = 3, DATA = 4;
    /** What is written round the CHANGED blocks of a COMMIT: one block that begins, one that ends. */
    private static final int JOURNAL_MARKS = 2;

    private final int blocks;
    private final Image now;
    private final Image committed;
    private final Tree keptTree;
    private final Journal journal;
    private final Power power;
    private final boolean[] changed;
    /** All bytes of the file that a call changes, 0 behind its SIZE. */
    private final byte[] scratch;

    public PackedTree(int blocks, int journal) {
        this.blocks = nearest(blocks, LEAST_BLOCKS, MOST_BLOCKS);
        this.now = new Image(this.blocks);
        this.committed = new Image(this.blocks);
        this.keptTree = new Tree(this.blocks);
        this.journal = new Journal(nearest(journal, LEAST_JOURNAL, MOST_JOURNAL), this.blocks);
        this.power = new Power();
        this.changed = new boolean[this.blocks];
        this.scratch = new byte[MOST_SIZE];
    }

    public int make(int dir, int name, boolean directory) throws UnsupportedOperationException, IndexOutOfBoundsException, IllegalArgumentException, IllegalStateException {
        needPower();
        needDirectory(dir);
        needName(name);
        needNoEntry(dir, name);
        int object = now.objects.leastFree();
        if (object == NONE) {
            throw new IllegalStateException("all objects are there");
        }
        keep();
        needRoom(now.tree.putIn(keyOf(object, STAT, 0), STAT_BYTES, NONE)
                && now.tree.putIn(keyOf(dir, ENTRY, name), ENTRY_BYTES, object));
        now.objects.begin(object, directory ? DIRECTORY : FILE, dir);
        now.objects.size[dir]++;
        return object;
    }

    public int link(int dir, int name, int object) throws UnsupportedOperationException, IndexOutOfBoundsException, IllegalArgumentException, IllegalStateException {
        needPower();
        needDirectory(dir);
        needFile(object);
        needName(name);
        needNoEntry(dir, name);
        keep();
        needRoom(now.tree.putIn(keyOf(dir, ENTRY, name), ENTRY_BYTES, object));
        now.objects.size[dir]++;
        now.objects.links[object]++;
        return now.objects.links[object];
    }

    public int unlink(int dir, int name) throws UnsupportedOperationException, IndexOutOfBoundsException, IllegalStateException {
        needPower();
        needDirectory(dir);
        int object = needEntry(dir, name);
        Objects objects = now.objects;
        if (objects.kind[object] == DIRECTORY && objects.size[object] > 0) {
            throw new IllegalStateException("the directory has entries");
        }
        now.tree.takeOut(keyOf(dir, ENTRY, name));
        objects.size[dir]--;
        objects.links[object]--;
        int left = objects.links[object];
        if (left == 0) {
            forget(object);
        }
        return left;
    }

    public int move(int dir, int name, int to, int as) throws UnsupportedOperationException, IndexOutOfBoundsException, IllegalArgumentException, IllegalStateException {
        needPower();
        needDirectory(dir);
        needDirectory(to);
        int object = needEntry(dir, name);
        needName(as);
        needNoEntry(to, as);
        Objects objects = now.objects;
        if (objects.holds(object, to)) {
            throw new IllegalStateException("the directory would be in itself");
        }
        keep();
        now.tree.takeOut(keyOf(dir, ENTRY, name));
        needRoom(now.tree.putIn(keyOf(to, ENTRY, as), ENTRY_BYTES, object));
        objects.size[dir]--;
        objects.size[to]++;
        if (objects.kind[object] == DIRECTORY) {
            objects.up[object] = to;
        }
        return object;
    }

    public int write(int object, int at, long w, int n) throws UnsupportedOperationException, IndexOutOfBoundsException, IllegalArgumentException, IllegalStateException {
        int size = sizeAfter(object, at, n, MOST_WRITE);
        now.gather(object, scratch);
        for (int k = 0; k < n; k++) {
            scratch[at + k] = (byte) (w >> (8 * k));
        }
        changeFile(object, size);
        return size;
    }

    public int fill(int object, int at, int seed, int n) throws UnsupportedOperationException, IndexOutOfBoundsException, IllegalArgumentException, IllegalStateException {
        int size = sizeAfter(object, at, n, MOST_FILL);
        now.gather(object, scratch);
        for (int k = 0; k < n; k++) {
            scratch[at + k] = (byte) (seed + FILL_STEP * k);
        }
        changeFile(object, size);
        return size;
    }

    public int cut(int object, int size) throws UnsupportedOperationException, IndexOutOfBoundsException, IllegalArgumentException, IllegalStateException {
        needPower();
        needFile(object);
        int was = now.objects.size[object];
        if (size < 0 || size > was) {
            throw new IllegalArgumentException("no size to cut to");
        }
        now.gather(object, scratch);
        for (int k = size; k < was; k++) {
            scratch[k] = 0;
        }
        changeFile(object, size);
        return dataBlocks(size);
    }

    public int read(int object, int k) throws UnsupportedOperationException, IndexOutOfBoundsException {
        needPower();
        needFile(object);
        if (k < 0 || k >= now.objects.size[object]) {
            throw new IndexOutOfBoundsException("no such byte");
        }
        return now.byteOf(object, k);
    }

    public int look(int dir, int name) throws UnsupportedOperationException, IndexOutOfBoundsException {
        needPower();
        needDirectory(dir);
        return toldBy(dir, name);
    }

    public int name(int dir, int k) throws UnsupportedOperationException, IndexOutOfBoundsException {
        needPower();
        needDirectory(dir);
        boolean isThere = k >= 0 && k < now.objects.size[dir];
        int slot = isThere ? now.tree.slotBehind(keyOf(dir, STAT, 0), k + 1) : NONE;
        if (slot == NONE) {
            throw new IndexOutOfBoundsException("not so many names");
        }
        return nameOf(now.tree.key[slot]);
    }

    public int about(int object, int what) throws UnsupportedOperationException, IndexOutOfBoundsException, IllegalArgumentException {
        needPower();
        if (!now.objects.isThere(object)) {
            throw new IndexOutOfBoundsException("no such object");
        }
        if (what < 0) {
            throw new IllegalArgumentException("nothing of that number is told about an object");
        }
        Objects objects = now.objects;
        switch (what) {
            case 0: return objects.kind[object];
            case 1: return objects.links[object];
            case 2: return objects.size[object];
            case 3: return objects.dataOf(object);
            case 4: return objects.tailOf(object);
            default: break;
        }
        if (what - 5 >= objects.dataOf(object)) {
            throw new IndexOutOfBoundsException("no such data block");
        }
        return objects.pointer[object * MOST_DATA + what - 5];
    }

    public int node(int height, int k, int what) throws UnsupportedOperationException, IndexOutOfBoundsException, IllegalArgumentException {
        needPower();
        Tree tree = now.tree;
        int node = tree.nodeAt(height, k);
        if (node == NONE) {
            throw new IndexOutOfBoundsException("no such node");
        }
        switch (what) {
            case 0: return node;
            case 1: return tree.members[node];
            case 2: return tree.used[node];
            case 3: return tree.parent[node];
            default: throw new IllegalArgumentException("nothing of that number is told of a node");
        }
    }

    public int item(int k, int what) throws UnsupportedOperationException, IndexOutOfBoundsException, IllegalArgumentException {
        needPower();
        Tree tree = now.tree;
        int slot = tree.slotFrom(tree.leftmost(0), k);
        if (slot == NONE) {
            throw new IndexOutOfBoundsException("no such item");
        }
        switch (what) {
            case 0: return objectOf(tree.key[slot]);
            case 1: return kindOf(tree.key[slot]);
            case 2: return nameOf(tree.key[slot]);
            case 3: return tree.body[slot];
            case 4: return slot / SLOTS;
            default: throw new IllegalArgumentException("nothing of that number is told of an item");
        }
    }

    public int commit() throws UnsupportedOperationException, IllegalStateException {
        needPower();
        int many = markChanged();
        if (many == 0) {
            return 0;
        }
        int needed = many + JOURNAL_MARKS;
        if (needed > journal.room) {
            throw new IllegalStateException("more is changed than the journal has room for");
        }
        int before = power.writes;
        boolean fits = needed <= journal.room - journal.full || journal.empties(power);
        if (fits && journal.takes(changed, power)) {
            committed.copyFrom(now);
        }
        return power.writes - before;
    }

    public int checkpoint() throws UnsupportedOperationException {
        needPower();
        return emptyJournal();
    }

    public int back() throws UnsupportedOperationException {
        needPower();
        int many = markChanged();
        now.copyFrom(committed);
        return many;
    }

    public void fail(int n) throws IllegalArgumentException {
        if (n < NONE) {
            throw new IllegalArgumentException("the power can't fail before it is told to");
        }
        power.left = n;
    }

    public boolean off() {
        return power.isOff;
    }

    public int recover() throws IllegalStateException {
        if (!power.isOff) {
            throw new IllegalStateException("the power is on");
        }
        power.isOff = false;
        now.copyFrom(committed);
        return emptyJournal();
    }

    public int count(int what) throws UnsupportedOperationException, IllegalArgumentException {
        needPower();
        Tree tree = now.tree;
        switch (what) {
            case 0: return tree.blocksInUse();
            case 1: return tree.leaves();
            case 2: return tree.height[tree.root] + 1;
            case 3: return now.objects.howMany();
            case 4: return tree.items();
            case 5: return tree.usedOfAll();
            case 6: return markChanged();
            case 7: return journal.full;
            case 8: return power.writes;
            case 9: return journal.commits;
            default: throw new IllegalArgumentException("nothing of that number is counted");
        }
    }

    private void needPower() {
        if (power.isOff) {
            throw new UnsupportedOperationException("the power is off");
        }
    }

    private void needDirectory(int object) {
        if (!now.objects.isThere(object) || now.objects.kind[object] != DIRECTORY) {
            throw new IndexOutOfBoundsException("no such directory");
        }
    }

    private void needFile(int object) {
        if (!now.objects.isThere(object) || now.objects.kind[object] != FILE) {
            throw new IndexOutOfBoundsException("no such file");
        }
    }

    private void needName(int name) {
        if (name < 0 || name >= NAMES) {
            throw new IllegalArgumentException("no name");
        }
    }

    private void needNoEntry(int dir, int name) {
        if (toldBy(dir, name) != NONE) {
            throw new IllegalStateException("the directory has that name");
        }
    }

    private int needEntry(int dir, int name) {
        int object = toldBy(dir, name);
        if (object == NONE) {
            throw new IndexOutOfBoundsException("the directory has no such name");
        }
        return object;
    }

    private void needRoom(boolean found) {
        if (!found) {
            now.tree.copyFrom(keptTree);
            throw new IllegalStateException("no block is free");
        }
    }

    /** Keeps the tree alone: bodies and bytes of files are changed only when no room can be wanting any more. */
    private void keep() {
        keptTree.copyFrom(now.tree);
    }

    private int toldBy(int dir, int name) {
        if (name < 0 || name >= NAMES) {
            return NONE;
        }
        int slot = now.tree.slotOf(keyOf(dir, ENTRY, name));
        return slot == NONE ? NONE : now.tree.told[slot];
    }

    /** The checks that write() and fill() share, in the order of their exceptions. */
    private int sizeAfter(int object, int at, int n, int most) {
        needPower();
        needFile(object);
        int size = now.objects.size[object];
        if (at < 0 || at > size) {
            throw new IndexOutOfBoundsException("no such byte");
        }
        if (n < 1 || n > most || at + n > MOST_SIZE) {
            throw new IllegalArgumentException("not so many bytes");
        }
        return Math.max(size, at + n);
    }

    private void changeFile(int object, int size) {
        Objects objects = now.objects;
        int data = objects.dataOf(object);
        int tail = objects.tailOf(object);
        keep();
        needRoom(changeData(object, data, dataBlocks(size))
                && now.tree.reshape(keyOf(object, POINTERS, 0), POINTER_BYTES * data, POINTER_BYTES * dataBlocks(size))
                && now.tree.reshape(keyOf(object, TAIL, 0), tail, tailBytes(size)));
        objects.size[object] = size;
        now.lay(object, scratch);
    }

    /** Pointers behind those that a file has may be anything: a call that finds no room leaves some there. */
    private boolean changeData(int object, int had, int has) {
        int[] pointer = now.objects.pointer;
        for (int k = had; k < has; k++) {
            int block = now.tree.takeBlock(DATA);
            if (block == NONE) {
                return false;
            }
            pointer[object * MOST_DATA + k] = block;
        }
        for (int k = had - 1; k >= has; k--) {
            now.tree.use[pointer[object * MOST_DATA + k]] = FREE;
        }
        return true;
    }

    private void forget(int object) {
        int data = now.objects.dataOf(object);
        changeData(object, data, 0);
        now.tree.reshape(keyOf(object, TAIL, 0), now.objects.tailOf(object), 0);
        now.tree.reshape(keyOf(object, POINTERS, 0), POINTER_BYTES * data, 0);
        now.tree.takeOut(keyOf(object, STAT, 0));
        now.objects.kind[object] = NONE;
    }

    private int markChanged() {
        int many = 0;
        for (int b = 0; b < blocks; b++) {
            changed[b] = now.tree.use[b] != FREE && !now.sameBlock(b, committed);
            if (changed[b]) {
                many++;
            }
        }
        return many;
    }

    private int emptyJournal() {
        int before = power.writes;
        journal.empties(power);
        return power.writes - before;
    }

    private static int nearest(int n, int least, int most) {
        return Math.max(least, Math.min(n, most));
    }

    private static int dataBlocks(int size) {
        int rest = size % BLOCK_BYTES;
        return size / BLOCK_BYTES + (rest > 0 && tailBytes(size) == 0 ? 1 : 0);
    }

    private static int tailBytes(int size) {
        int rest = size % BLOCK_BYTES;
        return rest <= MOST_TAIL && size <= MOST_SIZE_WITH_TAIL ? rest : 0;
    }

    /** Keys in one number, in their order. */
    private static int keyOf(int object, int kind, int name) {
        return (object * 4 + kind) * NAMES + name;
    }

    private static int objectOf(int key) {
        return key / NAMES / 4;
    }

    private static int kindOf(int key) {
        return key / NAMES % 4;
    }

    private static int nameOf(int key) {
        return key % NAMES;
    }

    /** What the blocks have in them: as they are, or as they were committed. */
    private static final class Image {
        final Tree tree;
        final Objects objects;
        final byte[] data;
        final byte[] tails;

        Image(int blocks) {
            tree = new Tree(blocks);
            objects = new Objects();
            data = new byte[blocks * BLOCK_BYTES];
            tails = new byte[(MOST_OBJECTS + 1) * MOST_TAIL];
        }

        void copyFrom(Image other) {
            tree.copyFrom(other.tree);
            objects.copyFrom(other.objects);
            System.arraycopy(other.data, 0, data, 0, data.length);
            System.arraycopy(other.tails, 0, tails, 0, tails.length);
        }

        void gather(int object, byte[] to) {
            int many = objects.dataOf(object);
            Arrays.fill(to, (byte) 0);
            for (int k = 0; k < many; k++) {
                int from = objects.pointer[object * MOST_DATA + k] * BLOCK_BYTES;
                System.arraycopy(data, from, to, k * BLOCK_BYTES, BLOCK_BYTES);
            }
            System.arraycopy(tails, object * MOST_TAIL, to, many * BLOCK_BYTES, objects.tailOf(object));
        }

        void lay(int object, byte[] from) {
            int many = objects.dataOf(object);
            for (int k = 0; k < many; k++) {
                int to = objects.pointer[object * MOST_DATA + k] * BLOCK_BYTES;
                System.arraycopy(from, k * BLOCK_BYTES, data, to, BLOCK_BYTES);
            }
            System.arraycopy(from, many * BLOCK_BYTES, tails, object * MOST_TAIL, objects.tailOf(object));
        }

        int byteOf(int object, int k) {
            int block = k / BLOCK_BYTES;
            int rest = k % BLOCK_BYTES;
            if (block < objects.dataOf(object)) {
                return data[objects.pointer[object * MOST_DATA + block] * BLOCK_BYTES + rest] & 255;
            }
            return tails[object * MOST_TAIL + rest] & 255;
        }

        boolean sameBlock(int block, Image then) {
            if (tree.use[block] != then.tree.use[block]) {
                return false;
            }
            switch (tree.use[block]) {
                case MAP: return tree.sameMap(then.tree);
                case LEAF: return sameLeaf(block, then);
                case INNER: return tree.sameInner(block, then.tree);
                default: return sameBytes(data, then.data, block * BLOCK_BYTES, BLOCK_BYTES);
            }
        }

        private boolean sameLeaf(int leaf, Image then) {
            if (!tree.sameItems(leaf, then.tree)) {
                return false;
            }
            for (int i = 0; i < tree.members[leaf]; i++) {
                if (!sameBody(leaf * SLOTS + i, then)) {
                    return false;
                }
            }
            return true;
        }

        /** Whether two items of the same key and size have the same in their bodies (told objects aside). */
        private boolean sameBody(int slot, Image then) {
            int object = objectOf(tree.key[slot]);
            switch (kindOf(tree.key[slot])) {
                case STAT: return objects.sameStat(object, then.objects);
                case POINTERS: return objects.samePointers(object, tree.body[slot] / POINTER_BYTES, then.objects);
                case TAIL: return sameBytes(tails, then.tails, object * MOST_TAIL, tree.body[slot]);
                default: return true;
            }
        }

        private static boolean sameBytes(byte[] a, byte[] b, int from, int many) {
            for (int k = from; k < from + many; k++) {
                if (a[k] != b[k]) {
                    return false;
                }
            }
            return true;
        }
    }

    /** What the STATs and POINTERS have in their bodies, by the objects' numbers; index 0 is no object. */
    private static final class Objects {
        final int[] kind = new int[MOST_OBJECTS + 1];
        final int[] links = new int[MOST_OBJECTS + 1];
        /** SIZE of a file, entries of a directory. */
        final int[] size = new int[MOST_OBJECTS + 1];
        /** The directory that a directory is in. */
        final int[] up = new int[MOST_OBJECTS + 1];
        final int[] pointer = new int[(MOST_OBJECTS + 1) * MOST_DATA];

        Objects() {
            Arrays.fill(kind, NONE);
            kind[ROOT_DIRECTORY] = DIRECTORY;
            links[ROOT_DIRECTORY] = 1;
            up[ROOT_DIRECTORY] = NONE;
        }

        void copyFrom(Objects other) {
            System.arraycopy(other.kind, 0, kind, 0, kind.length);
            System.arraycopy(other.links, 0, links, 0, links.length);
            System.arraycopy(other.size, 0, size, 0, size.length);
            System.arraycopy(other.up, 0, up, 0, up.length);
            System.arraycopy(other.pointer, 0, pointer, 0, pointer.length);
        }

        void begin(int object, int ofKind, int dir) {
            kind[object] = ofKind;
            links[object] = 1;
            size[object] = 0;
            up[object] = dir;
        }

        boolean isThere(int object) {
            return object >= 1 && object <= MOST_OBJECTS && kind[object] != NONE;
        }

        int leastFree() {
            for (int object = 1; object <= MOST_OBJECTS; object++) {
                if (kind[object] == NONE) {
                    return object;
                }
            }
            return NONE;
        }

        int howMany() {
            int many = 0;
            for (int object = 1; object <= MOST_OBJECTS; object++) {
                if (kind[object] != NONE) {
                    many++;
                }
            }
            return many;
        }

        int dataOf(int object) {
            return kind[object] == FILE ? dataBlocks(size[object]) : 0;
        }

        int tailOf(int object) {
            return kind[object] == FILE ? tailBytes(size[object]) : 0;
        }

        /** Whether a directory is the object or is in it, directly or through others. */
        boolean holds(int object, int dir) {
            int at = dir;
            for (int steps = 0; steps < MOST_OBJECTS && at != NONE; steps++) {
                if (at == object) {
                    return true;
                }
                at = up[at];
            }
            return false;
        }

        boolean sameStat(int object, Objects then) {
            return kind[object] == then.kind[object] && links[object] == then.links[object]
                    && size[object] == then.size[object];
        }

        boolean samePointers(int object, int many, Objects then) {
            for (int k = object * MOST_DATA; k < object * MOST_DATA + many; k++) {
                if (pointer[k] != then.pointer[k]) {
                    return false;
                }
            }
            return true;
        }
    }

    /**
     * The blocks' use and the nodes, each by its block's number. A leaf's items stand in the SLOTS from block * SLOTS on
     * (a SLOT is one such index), an inner node's children in those from block * CHILD_SLOTS on.
     */
    private static final class Tree {
        final int blocks;
        final int[] use;
        final int[] height;
        /** How many items or children a node has. */
        final int[] members;
        final int[] used;
        final int[] parent;
        /** The neighbours in the node's row. */
        final int[] before;
        final int[] behind;
        final int[] child;
        final int[] key;
        /** Bytes of an item's body. */
        final int[] body;
        /** The object that an ENTRY tells. */
        final int[] told;
        int root;

        Tree(int blocks) {
            this.blocks = blocks;
            use = new int[blocks];
            height = new int[blocks];
            members = new int[blocks];
            used = new int[blocks];
            parent = new int[blocks];
            before = new int[blocks];
            behind = new int[blocks];
            child = new int[blocks * CHILD_SLOTS];
            key = new int[blocks * SLOTS];
            body = new int[blocks * SLOTS];
            told = new int[blocks * SLOTS];
            use[0] = MAP;
            root = takeBlock(LEAF);
            openSlot(root, 0, keyOf(ROOT_DIRECTORY, STAT, 0), STAT_BYTES, NONE);
        }

        void copyFrom(Tree other) {
            System.arraycopy(other.use, 0, use, 0, use.length);
            System.arraycopy(other.height, 0, height, 0, height.length);
            System.arraycopy(other.members, 0, members, 0, members.length);
            System.arraycopy(other.used, 0, used, 0, used.length);
            System.arraycopy(other.parent, 0, parent, 0, parent.length);
            System.arraycopy(other.before, 0, before, 0, before.length);
            System.arraycopy(other.behind, 0, behind, 0, behind.length);
            System.arraycopy(other.child, 0, child, 0, child.length);
            System.arraycopy(other.key, 0, key, 0, key.length);
            System.arraycopy(other.body, 0, body, 0, body.length);
            System.arraycopy(other.told, 0, told, 0, told.length);
            root = other.root;
        }

        /** TAKES a block: one without members, neighbours and parent. */
        int takeBlock(int asUse) {
            for (int b = 1; b < blocks; b++) {
                if (use[b] == FREE) {
                    use[b] = asUse;
                    height[b] = 0;
                    members[b] = 0;
                    used[b] = 0;
                    parent[b] = NONE;
                    before[b] = NONE;
                    behind[b] = NONE;
                    return b;
                }
            }
            return NONE;
        }

        int blocksInUse() {
            int many = 0;
            for (int b = 0; b < blocks; b++) {
                if (use[b] != FREE) {
                    many++;
                }
            }
            return many;
        }

        int leaves() {
            int many = 0;
            for (int b = 0; b < blocks; b++) {
                if (use[b] == LEAF) {
                    many++;
                }
            }
            return many;
        }

        int items() {
            int many = 0;
            for (int b = 0; b < blocks; b++) {
                if (use[b] == LEAF) {
                    many += members[b];
                }
            }
            return many;
        }

        int usedOfAll() {
            int sum = 0;
            for (int b = 0; b < blocks; b++) {
                if (use[b] == LEAF) {
                    sum += used[b];
                }
            }
            return sum;
        }

        /** The first node of a height that is there. */
        int leftmost(int ofHeight) {
            int node = root;
            for (int h = height[root]; h > ofHeight; h--) {
                node = child[node * CHILD_SLOTS];
            }
            return node;
        }

        int nodeAt(int ofHeight, int k) {
            if (ofHeight < 0 || ofHeight > height[root] || k < 0 || k >= blocks) {
                return NONE;
            }
            int node = leftmost(ofHeight);
            for (int i = 0; i < k && node != NONE; i++) {
                node = behind[node];
            }
            return node;
        }

        /** The slot of the k-th item from a leaf's first one on. */
        int slotFrom(int leaf, int k) {
            if (k < 0) {
                return NONE;
            }
            int left = k;
            int at = leaf;
            for (int i = 0; i < blocks && at != NONE; i++) {
                if (left < members[at]) {
                    return at * SLOTS + left;
                }
                left -= members[at];
                at = behind[at];
            }
            return NONE;
        }

        int slotBehind(int ofKey, int k) {
            int slot = slotOf(ofKey);
            return slot == NONE ? NONE : slotFrom(slot / SLOTS, slot % SLOTS + k);
        }

        int slotOf(int ofKey) {
            int leaf = leafOf(ofKey);
            int index = placeIn(leaf, ofKey);
            boolean isThere = index < members[leaf] && key[leaf * SLOTS + index] == ofKey;
            return isThere ? leaf * SLOTS + index : NONE;
        }

        /** The leaf that an item BELONGS to. */
        private int leafOf(int ofKey) {
            int leaf = leftmost(0);
            for (int i = 0; i < blocks; i++) {
                int next = behind[leaf];
                if (next == NONE || key[next * SLOTS] > ofKey) {
                    return leaf;
                }
                leaf = next;
            }
            return leaf;
        }

        private int placeIn(int leaf, int ofKey) {
            int index = 0;
            while (index < members[leaf] && key[leaf * SLOTS + index] < ofKey) {
                index++;
            }
            return index;
        }

        /** An item is put in; whether there was room. */
        boolean putIn(int newKey, int bytes, int object) {
            int leaf = leafOf(newKey);
            openSlot(leaf, placeIn(leaf, newKey), newKey, bytes, object);
            return relieve(leaf);
        }

        void takeOut(int oldKey) {
            int slot = slotOf(oldKey);
            if (slot != NONE) {
                closeSlot(slot / SLOTS, slot % SLOTS);
                lookAt(slot / SLOTS);
            }
        }

        /** An item's body gets another size, 0 if there is none; whether there was room. */
        boolean reshape(int ofKey, int was, int is) {
            if (was == is) {
                return true;
            }
            int leaf = leafOf(ofKey);
            int index = placeIn(leaf, ofKey);
            if (was == 0) {
                openSlot(leaf, index, ofKey, is, NONE);
            } else if (is == 0) {
                closeSlot(leaf, index);
            } else {
                body[leaf * SLOTS + index] = is;
                used[leaf] += is - was;
            }
            if (is > was) {
                return relieve(leaf);
            }
            lookAt(leaf);
            return true;
        }

        private void openSlot(int leaf, int index, int newKey, int bytes, int object) {
            int many = members[leaf] - index;
            if (index < 0 || many < 0 || members[leaf] >= SLOTS) {
                return;
            }
            int slot = leaf * SLOTS + index;
            System.arraycopy(key, slot, key, slot + 1, many);
            System.arraycopy(body, slot, body, slot + 1, many);
            System.arraycopy(told, slot, told, slot + 1, many);
            key[slot] = newKey;
            body[slot] = bytes;
            told[slot] = object;
            members[leaf]++;
            used[leaf] += ITEM_BYTES + bytes;
        }

        private void closeSlot(int leaf, int index) {
            int many = members[leaf] - index - 1;
            if (index < 0 || many < 0) {
                return;
            }
            int slot = leaf * SLOTS + index;
            used[leaf] -= ITEM_BYTES + body[slot];
            members[leaf]--;
            System.arraycopy(key, slot + 1, key, slot, many);
            System.arraycopy(body, slot + 1, body, slot, many);
            System.arraycopy(told, slot + 1, told, slot, many);
        }

        private void shiftItem(int from, int index, int to, int place) {
            int slot = from * SLOTS + index;
            openSlot(to, place, key[slot], body[slot], told[slot]);
            closeSlot(from, index);
        }

        private boolean fits(int slot, int leaf) {
            return leaf != NONE && used[leaf] + ITEM_BYTES + body[slot] <= LEAF_BYTES;
        }

        /** A leaf with more than it may have gives way to its neighbours, then to a new leaf. */
        private boolean relieve(int leaf) {
            int first = leaf * SLOTS;
            int left = before[leaf];
            int right = behind[leaf];
            for (int i = 0; i < SLOTS && used[leaf] > LEAF_BYTES && fits(first, left); i++) {
                shiftItem(leaf, 0, left, members[left]);
            }
            for (int i = 0; i < SLOTS && used[leaf] > LEAF_BYTES && fits(first + members[leaf] - 1, right); i++) {
                shiftItem(leaf, members[leaf] - 1, right, 0);
            }
            if (used[leaf] <= LEAF_BYTES) {
                return true;
            }
            int fresh = takeBlock(LEAF);
            if (fresh == NONE) {
                return false;
            }
            for (int i = 0; i < SLOTS && used[leaf] > LEAF_BYTES; i++) {
                shiftItem(leaf, members[leaf] - 1, fresh, 0);
            }
            return addNode(fresh, leaf);
        }

        /** A leaf is LOOKED AT, and those that must be after it. */
        private void lookAt(int leaf) {
            int at = leaf;
            for (int i = 0; i < blocks; i++) {
                int left = before[at];
                int right = behind[at];
                if (members[at] == 0 && (left != NONE || right != NONE)) {
                    dropNode(at);
                    at = left != NONE ? left : right;
                } else if (left != NONE && used[left] + used[at] <= JOIN_BYTES) {
                    shiftAll(at, left);
                    dropNode(at);
                    at = left;
                } else if (right != NONE && used[at] + used[right] <= JOIN_BYTES) {
                    shiftAll(right, at);
                    dropNode(right);
                } else {
                    return;
                }
            }
        }

        private void shiftAll(int from, int to) {
            for (int i = 0; i < SLOTS && members[from] > 0; i++) {
                shiftItem(from, 0, to, members[to]);
            }
        }

        /** A node is ADDED behind another one; whether there was room. */
        private boolean addNode(int added, int behindThis) {
            int fresh = added;
            int node = behindThis;
            for (int h = 0; h < MOST_HEIGHTS; h++) {
                joinRow(fresh, node);
                int above = parent[node];
                if (above == NONE) {
                    return addRoot(node, fresh);
                }
                openChild(above, placeOf(node, above) + 1, fresh);
                if (members[above] <= MOST_CHILDREN) {
                    return true;
                }
                int half = takeBlock(INNER);
                if (half == NONE) {
                    return false;
                }
                height[half] = height[above];
                for (int i = 0; i < SPLIT_CHILDREN; i++) {
                    shiftChild(above, members[above] - 1, half, 0);
                }
                fresh = half;
                node = above;
            }
            return false;
        }

        private boolean addRoot(int first, int second) {
            int top = takeBlock(INNER);
            if (top == NONE) {
                return false;
            }
            height[top] = height[first] + 1;
            openChild(top, 0, first);
            openChild(top, 1, second);
            root = top;
            return true;
        }

        /** A node is GONE, and those above it that go with it. */
        private void dropNode(int gone) {
            int node = gone;
            for (int h = 0; h < MOST_HEIGHTS; h++) {
                int above = parent[node];
                leaveRow(node);
                use[node] = FREE;
                if (above == NONE) {
                    return;
                }
                closeChild(above, placeOf(node, above));
                if (members[above] != 1) {
                    return;
                }
                if (parent[above] == NONE) {
                    root = child[above * CHILD_SLOTS];
                    parent[root] = NONE;
                    use[above] = FREE;
                    return;
                }
                int left = before[above];
                int right = behind[above];
                if (left != NONE && members[left] < MOST_CHILDREN) {
                    shiftChild(above, 0, left, members[left]);
                } else if (right != NONE && members[right] < MOST_CHILDREN) {
                    shiftChild(above, 0, right, 0);
                } else if (left != NONE) {
                    shiftChild(left, members[left] - 1, above, 0);
                    return;
                } else {
                    if (right != NONE) {
                        shiftChild(right, 0, above, members[above]);
                    }
                    return;
                }
                node = above;
            }
        }

        private void joinRow(int fresh, int node) {
            int next = behind[node];
            before[fresh] = node;
            behind[fresh] = next;
            behind[node] = fresh;
            if (next != NONE) {
                before[next] = fresh;
            }
        }

        private void leaveRow(int node) {
            int left = before[node];
            int right = behind[node];
            if (left != NONE) {
                behind[left] = right;
            }
            if (right != NONE) {
                before[right] = left;
            }
        }

        private int placeOf(int node, int above) {
            int place = 0;
            while (place < members[above] && child[above * CHILD_SLOTS + place] != node) {
                place++;
            }
            return place;
        }

        private void openChild(int node, int place, int fresh) {
            int many = members[node] - place;
            if (place < 0 || many < 0 || members[node] >= CHILD_SLOTS) {
                return;
            }
            int slot = node * CHILD_SLOTS + place;
            System.arraycopy(child, slot, child, slot + 1, many);
            child[slot] = fresh;
            parent[fresh] = node;
            members[node]++;
        }

        private void closeChild(int node, int place) {
            int many = members[node] - place - 1;
            if (place < 0 || many < 0) {
                return;
            }
            int slot = node * CHILD_SLOTS + place;
            System.arraycopy(child, slot + 1, child, slot, many);
            members[node]--;
        }

        private void shiftChild(int from, int index, int to, int place) {
            int shifted = child[from * CHILD_SLOTS + index];
            closeChild(from, index);
            openChild(to, place, shifted);
        }

        private int firstKeyBelow(int node) {
            int at = node;
            for (int h = height[node]; h > 0; h--) {
                at = child[at * CHILD_SLOTS];
            }
            return key[at * SLOTS];
        }

        boolean sameMap(Tree then) {
            if (root != then.root) {
                return false;
            }
            for (int b = 0; b < blocks; b++) {
                if ((use[b] == FREE) != (then.use[b] == FREE)) {
                    return false;
                }
            }
            return true;
        }

        boolean sameItems(int leaf, Tree then) {
            if (members[leaf] != then.members[leaf]) {
                return false;
            }
            for (int s = leaf * SLOTS; s < leaf * SLOTS + members[leaf]; s++) {
                if (key[s] != then.key[s] || body[s] != then.body[s] || told[s] != then.told[s]) {
                    return false;
                }
            }
            return true;
        }

        boolean sameInner(int node, Tree then) {
            if (height[node] != then.height[node] || members[node] != then.members[node]) {
                return false;
            }
            for (int s = node * CHILD_SLOTS; s < node * CHILD_SLOTS + members[node]; s++) {
                if (child[s] != then.child[s] || firstKeyBelow(child[s]) != then.firstKeyBelow(then.child[s])) {
                    return false;
                }
            }
            return true;
        }
    }

    /** Which blocks are in the journal, and how many of its own are full. */
    private static final class Journal {
        final int room;
        final boolean[] holds;
        int full;
        int commits;

        Journal(int room, int blocks) {
            this.room = room;
            this.holds = new boolean[blocks];
        }

        /** A CHECKPOINT; false if the power went OFF in it: the journal is as it was then. */
        boolean empties(Power power) {
            if (full == 0) {
                return true;
            }
            for (int b = 0; b < holds.length; b++) {
                if (holds[b] && !power.writesOne()) {
                    return false;
                }
            }
            if (!power.writesOne()) {
                return false;
            }
            for (int b = 0; b < holds.length; b++) {
                holds[b] = false;
            }
            full = 0;
            return true;
        }

        /** The writes of a COMMIT; false if the power went OFF in them: nothing of it is in the journal then. */
        boolean takes(boolean[] changed, Power power) {
            int many = JOURNAL_MARKS;
            if (!power.writesOne()) {
                return false;
            }
            for (int b = 0; b < changed.length; b++) {
                if (changed[b]) {
                    many++;
                    if (!power.writesOne()) {
                        return false;
                    }
                }
            }
            if (!power.writesOne()) {
                return false;
            }
            for (int b = 0; b < holds.length && b < changed.length; b++) {
                holds[b] = holds[b] || changed[b];
            }
            full += many;
            commits++;
            return true;
        }
    }

    private static final class Power {
        boolean isOff = false;
        /** How many writes more are done before it goes OFF; NONE: it does not fail. */
        int left = NONE;
        int writes = 0;

        /** Whether the write was done: otherwise the power is OFF. */
        boolean writesOne() {
            if (left == 0) {
                isOff = true;
                left = NONE;
                return false;
            }
            if (left > 0) {
                left--;
            }
            writes++;
            return true;
        }
    }
}

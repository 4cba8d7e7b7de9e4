import java.util.ArrayList;
import java.util.HashSet;
import java.util.List;
import java.util.Map;
import java.util.Set;
import java.util.TreeMap;
import java.util.TreeSet;

/** The document once more, in the slowest and plainest words: rows and parents are looked for anew each time. */
final class PlainModel {
    static final class Item implements Comparable<Item> {
        final int object, kind, name;
        int bytes;

        Item(int object, int kind, int name, int bytes) {
            this.object = object;
            this.kind = kind;
            this.name = name;
            this.bytes = bytes;
        }

        int cost() {
            return 8 + bytes;
        }

        @Override
        public int compareTo(Item o) {
            if (object != o.object) {
                return Integer.compare(object, o.object);
            }
            return kind != o.kind ? Integer.compare(kind, o.kind) : Integer.compare(name, o.name);
        }

        String key() {
            return object + "/" + kind + "/" + name;
        }
    }

    static final class Node {
        int block, height;
        List<Item> items = new ArrayList<>();
        List<Node> kids = new ArrayList<>();

        int used() {
            return items.stream().mapToInt(Item::cost).sum();
        }

        Node copy() {
            Node n = new Node();
            n.block = block;
            n.height = height;
            for (Item i : items) {
                n.items.add(new Item(i.object, i.kind, i.name, i.bytes));
            }
            for (Node k : kids) {
                n.kids.add(k.copy());
            }
            return n;
        }

        Item first() {
            return height == 0 ? items.get(0) : kids.get(0).first();
        }
    }

    static final class Thing {
        boolean directory;
        int links = 1;
        TreeMap<Integer, Integer> entries = new TreeMap<>();
        List<Integer> bytes = new ArrayList<>();
        List<Integer> data = new ArrayList<>();

        Thing copy() {
            Thing t = new Thing();
            t.directory = directory;
            t.links = links;
            t.entries.putAll(entries);
            t.bytes.addAll(bytes);
            t.data.addAll(data);
            return t;
        }

        int size() {
            return directory ? entries.size() : bytes.size();
        }

        int tail() {
            return directory ? 0 : bytes.size() - Math.min(bytes.size(), 128 * data.size());
        }
    }

    static final class World {
        Node root;
        TreeSet<Integer> free = new TreeSet<>();
        TreeMap<Integer, Thing> things = new TreeMap<>();

        World copy() {
            World w = new World();
            w.root = root.copy();
            w.free.addAll(free);
            things.forEach((n, t) -> w.things.put(n, t.copy()));
            return w;
        }
    }

    final int blocks, room;
    World world = new World();
    World committed;
    Set<Integer> inJournal = new HashSet<>();
    int full, writes, commits, left = -1;
    boolean off;

    PlainModel(int blocks, int journal) {
        this.blocks = blocks < 16 ? 16 : blocks > 96 ? 96 : blocks;
        this.room = journal < 6 ? 6 : journal > 64 ? 64 : journal;
        for (int b = 2; b < this.blocks; b++) {
            world.free.add(b);
        }
        world.root = new Node();
        world.root.block = 1;
        world.root.items.add(new Item(1, 0, 0, 6));
        Thing top = new Thing();
        top.directory = true;
        world.things.put(1, top);
        committed = world.copy();
    }

    // ---- blocks and nodes

    int take() {
        if (world.free.isEmpty()) {
            throw new IllegalStateException("no block");
        }
        return world.free.pollFirst();
    }

    List<Node> row(int height) {
        List<Node> row = new ArrayList<>();
        collect(world.root, height, row);
        return row;
    }

    private static void collect(Node n, int height, List<Node> row) {
        if (n.height == height) {
            row.add(n);
        }
        n.kids.forEach(k -> collect(k, height, row));
    }

    Node parent(Node n) {
        for (Node p : row(n.height + 1)) {
            if (p.kids.contains(n)) {
                return p;
            }
        }
        return null;
    }

    Node neighbour(Node n, int step) {
        List<Node> row = row(n.height);
        int i = row.indexOf(n) + step;
        return i < 0 || i >= row.size() ? null : row.get(i);
    }

    Node home(Item item) {
        List<Node> leaves = row(0);
        for (int i = leaves.size() - 1; i >= 0; i--) {
            if (leaves.get(i).items.get(0).compareTo(item) <= 0) {
                return leaves.get(i);
            }
        }
        return leaves.get(0);
    }

    void putIn(Item item) {
        Node leaf = home(item);
        leaf.items.add(item);
        leaf.items.sort(null);
        giveWay(leaf);
    }

    void giveWay(Node leaf) {
        Node before = neighbour(leaf, -1);
        Node behind = neighbour(leaf, 1);
        while (leaf.used() > 120 && before != null && before.used() + leaf.items.get(0).cost() <= 120) {
            before.items.add(leaf.items.remove(0));
        }
        while (leaf.used() > 120 && behind != null && behind.used() + leaf.items.get(leaf.items.size() - 1).cost() <= 120) {
            behind.items.add(0, leaf.items.remove(leaf.items.size() - 1));
        }
        if (leaf.used() > 120) {
            Node fresh = new Node();
            fresh.block = take();
            while (leaf.used() > 120) {
                fresh.items.add(0, leaf.items.remove(leaf.items.size() - 1));
            }
            added(fresh, leaf);
        }
    }

    void added(Node fresh, Node node) {
        Node p = parent(node);
        if (p == null) {
            Node top = new Node();
            top.block = take();
            top.height = node.height + 1;
            top.kids.add(node);
            top.kids.add(fresh);
            world.root = top;
            return;
        }
        p.kids.add(p.kids.indexOf(node) + 1, fresh);
        if (p.kids.size() == 6) {
            Node half = new Node();
            half.block = take();
            half.height = p.height;
            List<Node> last = p.kids.subList(3, 6);
            half.kids.addAll(last);
            last.clear();
            added(half, p);
        }
    }

    void goes(Item key) {
        Node leaf = home(key);
        leaf.items.removeIf(i -> i.compareTo(key) == 0);
        lookAt(leaf);
    }

    void lookAt(Node leaf) {
        Node before = neighbour(leaf, -1);
        Node behind = neighbour(leaf, 1);
        if (leaf.items.isEmpty()) {
            if (before != null || behind != null) {
                gone(leaf);
                lookAt(before != null ? before : behind);
            }
        } else if (before != null && before.used() + leaf.used() <= 72) {
            before.items.addAll(leaf.items);
            gone(leaf);
            lookAt(before);
        } else if (behind != null && behind.used() + leaf.used() <= 72) {
            leaf.items.addAll(behind.items);
            gone(behind);
            lookAt(leaf);
        }
    }

    void gone(Node node) {
        Node p = parent(node);
        // neighbours must be known before the tree is taken apart
        Node before = neighbour(p, -1);
        Node behind = neighbour(p, 1);
        world.free.add(node.block);
        p.kids.remove(node);
        if (p.kids.size() != 1) {
            return;
        }
        Node child = p.kids.get(0);
        if (p == world.root) {
            world.free.add(p.block);
            world.root = child;
        } else if (before != null && before.kids.size() < 5) {
            p.kids.clear();
            before.kids.add(child);
            gone(p);
        } else if (behind != null && behind.kids.size() < 5) {
            p.kids.clear();
            behind.kids.add(0, child);
            gone(p);
        } else if (before != null) {
            p.kids.add(0, before.kids.remove(4));
        } else {
            p.kids.add(behind.kids.remove(0));
        }
    }

    // ---- files

    void changeFile(int object, List<Integer> bytes) {
        Thing t = world.things.get(object);
        int hadData = t.data.size();
        int hadTail = t.tail();
        int s = bytes.size();
        int rest = s % 128;
        int want = s / 128;
        int tail = 0;
        if (rest > 0) {
            if (rest <= 40 && s <= 512) {
                tail = rest;
            } else {
                want++;
            }
        }
        while (t.data.size() < want) {
            t.data.add(take());
        }
        while (t.data.size() > want) {
            world.free.add(t.data.remove(t.data.size() - 1));
        }
        t.bytes = bytes;
        body(object, 2, 2 * hadData, 2 * want);
        body(object, 3, hadTail, tail);
    }

    void body(int object, int kind, int had, int has) {
        Item item = new Item(object, kind, 0, has);
        if (had == 0 && has > 0) {
            putIn(item);
        } else if (had > 0 && has == 0) {
            goes(item);
        } else if (had != has) {
            Node leaf = home(item);
            for (Item i : leaf.items) {
                if (i.compareTo(item) == 0) {
                    i.bytes = has;
                }
            }
            if (has > had) {
                giveWay(leaf);
            } else {
                lookAt(leaf);
            }
        }
    }

    // ---- what is in the blocks

    TreeMap<Integer, String> contents(World w) {
        TreeMap<Integer, String> all = new TreeMap<>();
        for (Map.Entry<Integer, Thing> e : w.things.entrySet()) {
            Thing t = e.getValue();
            for (int i = 0; i < t.data.size(); i++) {
                StringBuilder b = new StringBuilder("data");
                for (int k = 128 * i; k < 128 * i + 128; k++) {
                    b.append(' ').append(k < t.bytes.size() ? t.bytes.get(k) : 0);
                }
                all.put(t.data.get(i), b.toString());
            }
        }
        render(w, w.root, all);
        all.put(0, "root " + w.root.block + " free " + w.free);
        return all;
    }

    private void render(World w, Node n, TreeMap<Integer, String> all) {
        StringBuilder b = new StringBuilder("node of height " + n.height);
        for (Node k : n.kids) {
            b.append(' ').append(k.block).append(':').append(k.first().key());
            render(w, k, all);
        }
        for (Item i : n.items) {
            Thing t = w.things.get(i.object);
            b.append(' ').append(i.key()).append('=');
            switch (i.kind) {
                case 0 -> b.append(t.directory).append(t.links).append(',').append(t.size());
                case 1 -> b.append(t.entries.get(i.name));
                case 2 -> b.append(t.data);
                default -> b.append(t.bytes.subList(t.bytes.size() - t.tail(), t.bytes.size()));
            }
        }
        all.put(n.block, b.toString());
    }

    TreeSet<Integer> changed() {
        TreeMap<Integer, String> then = contents(committed);
        TreeSet<Integer> changed = new TreeSet<>();
        contents(world).forEach((b, text) -> {
            if (!text.equals(then.get(b))) {
                changed.add(b);
            }
        });
        return changed;
    }

    // ---- power and journal

    boolean oneWrite() {
        if (left == 0) {
            off = true;
            left = -1;
            return false;
        }
        if (left > 0) {
            left--;
        }
        writes++;
        return true;
    }

    boolean allWrites(int n) {
        for (int i = 0; i < n; i++) {
            if (!oneWrite()) {
                return false;
            }
        }
        return true;
    }

    void doCheckpoint() {
        if (full > 0 && allWrites(inJournal.size() + 1)) {
            full = 0;
            inJournal.clear();
        }
    }

    // ---- the calls

    private long on(Call c) {
        return switch (c.name()) {
            case "make" -> make(c.at(0), c.at(1), c.at(2) != 0);
            case "link" -> link(c.at(0), c.at(1), c.at(2));
            case "unlink" -> unlink(c.at(0), c.at(1));
            case "move" -> move(c.at(0), c.at(1), c.at(2), c.at(3));
            case "write" -> write(c.at(0), c.at(1), c.args()[2], c.at(3));
            case "fill" -> fill(c.at(0), c.at(1), c.at(2), c.at(3));
            case "cut" -> cut(c.at(0), c.at(1));
            case "read" -> read(c.at(0), c.at(1));
            case "look" -> look(c.at(0), c.at(1));
            case "name" -> name(c.at(0), c.at(1));
            case "about" -> about(c.at(0), c.at(1));
            case "node" -> node(c.at(0), c.at(1), c.at(2));
            case "item" -> item(c.at(0), c.at(1));
            case "commit" -> commit();
            case "checkpoint" -> checkpoint();
            case "back" -> back();
            case "fail" -> fail(c.at(0));
            case "off" -> off ? 1 : 0;
            case "recover" -> recover();
            case "count" -> count(c.at(0));
            default -> throw new AssertionError("there is no call " + c);
        };
    }

    String answer(Call c) {
        try {
            return Long.toString(on(c));
        } catch (RuntimeException e) {
            return e.getClass().getSimpleName();
        }
    }

    void power() {
        if (off) {
            throw new UnsupportedOperationException();
        }
    }

    static void bound(boolean ok) {
        if (!ok) {
            throw new IndexOutOfBoundsException();
        }
    }

    static void argument(boolean ok) {
        if (!ok) {
            throw new IllegalArgumentException();
        }
    }

    static void state(boolean ok) {
        if (!ok) {
            throw new IllegalStateException();
        }
    }

    Thing directory(int n) {
        Thing t = world.things.get(n);
        bound(t != null && t.directory);
        return t;
    }

    Thing file(int n) {
        Thing t = world.things.get(n);
        bound(t != null && !t.directory);
        return t;
    }

    void orNothing(Runnable r) {
        World before = world.copy();
        try {
            r.run();
        } catch (IllegalStateException e) {
            world = before;
            throw new IllegalStateException();
        }
    }

    int make(int dir, int name, boolean directory) {
        power();
        Thing d = directory(dir);
        argument(name >= 0 && name <= 999);
        state(!d.entries.containsKey(name) && world.things.size() < 60);
        int n = 1;
        while (world.things.containsKey(n)) {
            n++;
        }
        int number = n;
        orNothing(() -> {
            Thing t = new Thing();
            t.directory = directory;
            world.things.put(number, t);
            putIn(new Item(number, 0, 0, 6));
            putIn(new Item(dir, 1, name, 3));
            d.entries.put(name, number);
        });
        return number;
    }

    int link(int dir, int name, int object) {
        power();
        Thing d = directory(dir);
        Thing f = file(object);
        argument(name >= 0 && name <= 999);
        state(!d.entries.containsKey(name));
        orNothing(() -> {
            putIn(new Item(dir, 1, name, 3));
            d.entries.put(name, object);
            f.links++;
        });
        return f.links;
    }

    int unlink(int dir, int name) {
        power();
        Thing d = directory(dir);
        bound(d.entries.containsKey(name));
        int object = d.entries.get(name);
        Thing t = world.things.get(object);
        state(t.entries.isEmpty());
        goes(new Item(dir, 1, name, 3));
        d.entries.remove(name);
        t.links--;
        if (t.links == 0) {
            int tail = t.tail();
            int data = t.data.size();
            world.free.addAll(t.data);
            body(object, 3, tail, 0);
            body(object, 2, data, 0);
            goes(new Item(object, 0, 0, 6));
            world.things.remove(object);
        }
        return t.links;
    }

    boolean inside(int object, int dir) {
        if (object == dir) {
            return true;
        }
        Thing t = world.things.get(object);
        for (int e : t.entries.values()) {
            if (world.things.get(e).directory && inside(e, dir)) {
                return true;
            }
        }
        return false;
    }

    int move(int dir, int name, int to, int as) {
        power();
        Thing a = directory(dir);
        Thing b = directory(to);
        bound(a.entries.containsKey(name));
        argument(as >= 0 && as <= 999);
        int object = a.entries.get(name);
        state(!b.entries.containsKey(as));
        state(!world.things.get(object).directory || !inside(object, to));
        orNothing(() -> {
            goes(new Item(dir, 1, name, 3));
            a.entries.remove(name);
            putIn(new Item(to, 1, as, 3));
            b.entries.put(as, object);
        });
        return object;
    }

    int bytes(int object, int at, int n, int most, java.util.function.IntUnaryOperator source) {
        power();
        Thing f = file(object);
        bound(at >= 0 && at <= f.bytes.size());
        argument(n >= 1 && n <= most && at + n <= 2048);
        List<Integer> bytes = new ArrayList<>(f.bytes);
        for (int k = 0; k < n; k++) {
            int v = source.applyAsInt(k) & 255;
            if (at + k < bytes.size()) {
                bytes.set(at + k, v);
            } else {
                bytes.add(v);
            }
        }
        orNothing(() -> changeFile(object, bytes));
        return bytes.size();
    }

    int write(int object, int at, long w, int n) {
        return bytes(object, at, n, 8, k -> (int) (w >>> (8 * k)));
    }

    int fill(int object, int at, int seed, int n) {
        return bytes(object, at, n, 512, k -> seed + 7 * k);
    }

    int cut(int object, int size) {
        power();
        Thing f = file(object);
        argument(size >= 0 && size <= f.bytes.size());
        List<Integer> bytes = new ArrayList<>(f.bytes.subList(0, size));
        orNothing(() -> changeFile(object, bytes));
        return world.things.get(object).data.size();
    }

    int read(int object, int k) {
        power();
        Thing f = file(object);
        bound(k >= 0 && k < f.bytes.size());
        return f.bytes.get(k);
    }

    int look(int dir, int name) {
        power();
        return directory(dir).entries.getOrDefault(name, -1);
    }

    int name(int dir, int k) {
        power();
        Thing d = directory(dir);
        bound(k >= 0 && k < d.entries.size());
        return new ArrayList<>(d.entries.keySet()).get(k);
    }

    int about(int object, int what) {
        power();
        Thing t = world.things.get(object);
        bound(t != null);
        bound(what < 5 || what - 5 < t.data.size());
        argument(what >= 0);
        return switch (what) {
            case 0 -> t.directory ? 0 : 1;
            case 1 -> t.links;
            case 2 -> t.size();
            case 3 -> t.data.size();
            case 4 -> t.tail();
            default -> t.data.get(what - 5);
        };
    }

    int node(int height, int k, int what) {
        power();
        List<Node> row = row(height);
        bound(k >= 0 && k < row.size());
        argument(what >= 0 && what <= 3);
        Node n = row.get(k);
        Node p = parent(n);
        return switch (what) {
            case 0 -> n.block;
            case 1 -> n.items.size() + n.kids.size();
            case 2 -> n.used();
            default -> p == null ? -1 : p.block;
        };
    }

    int item(int k, int what) {
        power();
        int at = k;
        for (Node leaf : row(0)) {
            if (at >= 0 && at < leaf.items.size()) {
                argument(what >= 0 && what <= 4);
                Item i = leaf.items.get(at);
                return new int[] {i.object, i.kind, i.name, i.bytes, leaf.block}[what];
            }
            at -= leaf.items.size();
        }
        throw new IndexOutOfBoundsException();
    }

    int commit() {
        power();
        TreeSet<Integer> changed = changed();
        if (changed.isEmpty()) {
            return 0;
        }
        int needed = changed.size() + 2;
        state(needed <= room);
        int was = writes;
        if (needed > room - full) {
            doCheckpoint();
        }
        if (!off && allWrites(needed)) {
            full += needed;
            inJournal.addAll(changed);
            commits++;
            committed = world.copy();
        }
        return writes - was;
    }

    int checkpoint() {
        power();
        int was = writes;
        doCheckpoint();
        return writes - was;
    }

    int back() {
        power();
        int n = changed().size();
        world = committed.copy();
        return n;
    }

    int fail(int n) {
        argument(n >= -1);
        left = n;
        return 0;
    }

    int recover() {
        state(off);
        off = false;
        world = committed.copy();
        int was = writes;
        doCheckpoint();
        return writes - was;
    }

    int count(int what) {
        power();
        argument(what >= 0 && what <= 9);
        return switch (what) {
            case 0 -> blocks - world.free.size();
            case 1 -> row(0).size();
            case 2 -> world.root.height + 1;
            case 3 -> world.things.size();
            case 4 -> row(0).stream().mapToInt(n -> n.items.size()).sum();
            case 5 -> row(0).stream().mapToInt(Node::used).sum();
            case 6 -> changed().size();
            case 7 -> full;
            case 8 -> writes;
            default -> commits;
        };
    }
}

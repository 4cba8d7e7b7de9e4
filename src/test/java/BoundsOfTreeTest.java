import java.io.IOException;

/**
 * The terms that promises 2 to 8, 12 to 14 and 21 rest on: blocks, items, leaves that give way and join, inner nodes, and
 * what happens when a file changes. (The root directory's STAT is the first item and never goes: so no item comes before
 * all of the first leaf, and the first leaf is never empty.)
 */
public final class BoundsOfTreeTest extends Bounds {
    public static void main(String[] args) throws IOException {
        new BoundsOfTreeTest().begin(args);
    }

    @Override
    void all() {
        blocks();
        items();
        fullLeaves();
        itemsToTheLeafBefore();
        itemsToTheLeafBehind();
        newLeaves();
        belonging();
        emptyLeaves();
        joiningLeaves();
        addedNodes();
        nodesThatAreGone();
        filesThatChange();
        orderOfItems();
    }

    private Run links(Run r, int dir, int first, int last, int step) {
        for (int name = first; name <= last; name += step) {
            r.does("link(" + dir + ", " + name + ", 2)");
        }
        return r;
    }

    private Run unlinks(Run r, int dir, int first, int last, int step) {
        for (int name = first; name <= last; name += step) {
            r.does("unlink(" + dir + ", " + name + ")");
        }
        return r;
    }

    private Run withFile() {
        return on(96, 64).does("make(1, 0, false)");
    }

    /** A file 2 under so many names of the root directory: 14 + 11 for each name + 14. */
    private Run named(int blocks, int names) {
        return links(on(blocks, 64).does("make(1, 0, false)"), 1, 1, names - 1, 1);
    }

    private void blocks() {
        says("Terms (6, 12, 13)",
                "BLOCKS are 0 .. n - 1, of 128 bytes each; one that is TAKEN is always the least that is free",
                () -> {
                    Run r = on(16, 64).does("make(1, 0, false)", "make(1, 1, false)");
                    for (int k = 0; k < 14; k++) {
                        r.does("fill(" + (2 + k % 2) + ", " + k / 2 * 128 + ", 1, 128)");
                        r.due("about(" + (2 + k % 2) + ", " + (5 + k / 2) + ")", 2 + k);
                    }
                    r.refused("write(2, 896, 1, 1)", STATE).due("about(3, 11)", 15).due("cut(3, 640)", 5)
                            .does("cut(2, 768)")
                            .due("fill(2, 768, 1, 129)", 897).due("about(2, 11)", 13).due("about(2, 12)", 14)
                            .due("about(3, 9)", 11).refused("fill(3, 640, 1, 130)", STATE)
                            .due("fill(3, 640, 1, 128)", 768)
                            .due("about(3, 10)", 15);
                });
        says("Terms (13, 21)", "each NODE of the tree is a block; all others in use are DATA of files",
                () -> links(withFile()
                .due("count(0)", 2).does("fill(2, 0, 1, 300)").due("count(0)", 2 + 3), 1, 1, 20, 1).row(1, "6:3")
                .row(0, "1:10:113 5:10:110 7:4:50").due("count(0)", 1 + 4 + 3));
    }

    private void items() {
        says("Terms (14, 21)", "in order by object, then kind, then name (0, but for entries)", () -> {
            Run r = on(96, 64).does("make(1, 500, true)", "make(2, 999, false)", "make(2, 0, false)",
                    "make(1, 3, false)",
                    "fill(4, 0, 1, 129)");
            int[][] keys = {{1, 0, 0}, {1, 1, 3}, {1, 1, 500}, {2, 0, 0}, {2, 1, 0}, {2, 1, 999}, {3, 0, 0}, {4, 0, 0},
                    {4, 2, 0},
                {4, 3, 0}, {5, 0, 0}};
            for (int k = 0; k < keys.length; k++) {
                for (int what = 0; what <= 2; what++) {
                    r.due("item(" + k + ", " + what + ")", keys[k][what]);
                }
            }
            r.due("count(4)", keys.length);
        });
        says("Terms (14, 21)", "an item COSTS 8 bytes and its body", () -> on(96, 64).due("count(5)", 8 + 6)
                .does("make(1, 0, false)").due("count(5)", 3 * 8 + 6 + 3 + 6).does("fill(2, 0, 1, 1)")
                .due("count(5)", 39 + 9)
                .does("fill(2, 0, 1, 40)").due("count(5)", 39 + 48).does("fill(2, 0, 1, 41)").due("count(5)", 39 + 10)
                .does("fill(2, 0, 1, 129)").due("count(5)", 39 + 10 + 9));
        says("Terms (14)", "0 STAT, of each object, 6 bytes; 1 ENTRY, of a directory, for each name one, 3 bytes",
                () -> on(96, 64)
                .does("make(1, 0, true)", "make(1, 1, false)", "link(1, 2, 3)").due("item(0, 3)", 6)
                .due("item(1, 3)", 3)
                .due("item(2, 3)", 3).due("item(3, 3)", 3).due("item(4, 3)", 6).due("item(5, 3)", 6)
                .due("count(4)", 6));
        says("Terms (14)", "2 POINTERS of a file, 2 bytes for each of its data blocks (none without such)", () -> {
            Run r = withFile().does("fill(2, 0, 1, 40)").due("count(4)", 4).due("item(3, 1)", 3)
                    .does("fill(2, 0, 1, 41)");
            for (int data = 1; data <= 16; data++) {
                r.does("fill(2, " + 128 * (data - 1) + ", 1, 128)").due("item(3, 1)", 2).due("item(3, 3)", 2 * data)
                        .due("count(4)", 4);
            }
            r.does("cut(2, 0)").due("count(4)", 3).refused("item(3, 1)", INDEX);
        });
        says("Terms (14)", "3 TAIL of a file, its last bytes, if they are no data (none without such)", () -> withFile()
                .refused("item(3, 1)", INDEX).does("write(2, 0, 1, 1)").due("item(3, 1)", 3).due("item(3, 3)", 1)
                .does("fill(2, 0, 1, 40)").due("item(3, 3)", 40).does("write(2, 40, 1, 1)").due("item(3, 1)", 2)
                .due("count(4)", 4)
                .does("fill(2, 0, 1, 128)").due("count(4)", 4).does("write(2, 128, 1, 1)").due("count(4)", 5)
                .due("item(4, 1)", 3)
                .due("item(4, 3)", 1));
    }

    private void fullLeaves() {
        says("Terms (13, 21)", "USED is what they cost, 120 at most", () -> {
            named(96, 4).does("fill(2, 0, 1, 40)").row(0, "1:7:120").due("count(2)", 1);
            named(96, 5).does("fill(2, 0, 1, 29)").row(0, "1:8:120");
            named(96, 5).does("fill(2, 0, 1, 30)").row(0, "1:7:83 2:1:38").row(1, "3:2").parents(0, "3 3")
                    .parents(1, "-1");
            named(96, 5).does("fill(2, 0, 1, 29)", "write(2, 29, 0, 1)").row(0, "1:7:83 2:1:38");
            named(96, 8).row(0, "1:10:116");
            named(96, 9).row(0, "1:10:113 2:1:14").due("count(5)", 127);
        });
        says("Terms (2, 3, 6)", "IllegalStateException: there is no room (also no block to be TAKEN)", () -> {
            withData(14).due("count(0)", 16).due("count(5)", 119).refused("link(1, 5, 2)", STATE);
            withData(13).due("count(0)", 15).due("count(5)", 117).refused("link(1, 5, 2)", STATE);
            withData(12).due("count(0)", 14).due("count(5)", 115).due("link(1, 5, 2)", 6).row(0, "1:8:94 14:1:32")
                    .row(1, "15:2")
                    .due("count(0)", 16);
        });
    }

    /** Sixteen blocks, so many of them data of a file under five names, one leaf. */
    private Run withData(int data) {
        Run r = on(16, 64).does("make(1, 0, false)", "fill(2, 0, 1, 512)", "fill(2, 512, 1, 512)",
                "fill(2, 1024, 1, 512)");
        for (int k = 12; k < data; k++) {
            r.does("fill(2, " + 128 * k + ", 1, 128)");
        }
        return links(r, 1, 1, 4, 1);
    }

    /** Leaves of 83, 117, 111, 48: [.. 2 STAT] [2 TAIL, 3 STAT, 4 ENTRIES, 4 STAT] [4 TAIL, 5 STAT, 5 ENTRIES, 6 STAT] [6 TAIL]. */
    private Run fourLeaves() {
        Run r = on(96, 64).does("make(1, 0, false)", "make(1, 1, true)", "make(1, 2, false)", "make(1, 3, true)",
                "make(1, 4, false)",
                "fill(2, 0, 1, 37)", "fill(4, 0, 1, 20)");
        links(r, 3, 1, 4, 1).does("fill(6, 0, 1, 40)");
        return links(r, 5, 1, 5, 1).row(0, "1:7:83 2:7:117 4:8:111 5:1:48");
    }

    /** Leaves of 119, 116, 77: the second one has four entries of 3, 4 STAT, 5 STAT and four entries of 5. */
    private Run threeLeaves() {
        Run r = on(96, 64).does("make(1, 0, false)", "make(1, 1, true)", "make(1, 2, false)", "make(1, 3, true)");
        return links(links(r, 3, 1, 7, 1), 5, 1, 11, 1).row(0, "1:10:119 2:10:116 4:7:77");
    }

    private void itemsToTheLeafBefore() {
        says("Terms (13)", "as long as its leaf has more than 120, its first item goes to the leaf before, if it fits there", () -> {
            fourLeaves().does("cut(2, 29)", "link(3, 5, 2)").row(0, "1:7:83 2:8:120 4:8:111 5:1:48")
                    .does("link(3, 6, 2)")
                    .row(0, "1:8:120 2:8:94 4:8:111 5:1:48");
            fourLeaves().does("cut(2, 30)", "link(3, 5, 2)").row(0, "1:7:83 2:7:107 6:1:14 4:8:111 5:1:48");
            fourLeaves().does("cut(2, 29)", "cut(4, 15)", "link(3, 5, 2)", "link(3, 6, 2)")
                    .row(0, "1:8:120 2:8:94 4:8:106 5:1:48");
            unlinks(threeLeaves(), 3, 1, 2, 1).does("fill(4, 0, 1, 7)").row(0, "1:9:108 2:10:120 4:7:77");
            unlinks(threeLeaves(), 3, 1, 2, 1).does("fill(4, 0, 1, 8)").row(0, "1:10:119 2:9:110 4:7:77");
        });
    }

    private void itemsToTheLeafBehind() {
        says("Terms (13)", "then likewise its last item to the leaf behind", () -> {
            fourLeaves().does("cut(4, 15)", "link(3, 5, 2)").row(0, "1:7:83 2:7:114 4:9:120 5:1:48");
            fourLeaves().does("cut(4, 16)", "link(3, 5, 2)").row(0, "1:7:83 2:7:114 6:1:14 4:8:107 5:1:48");
            threeLeaves().does("fill(4, 0, 1, 7)").row(0, "1:10:119 2:10:120 4:8:88");
            threeLeaves().does("fill(4, 0, 1, 8)").row(0, "1:10:119 2:9:110 4:9:99");
            unlinks(unlinks(threeLeaves(), 3, 1, 2, 1), 5, 8, 9, 1).does("fill(4, 0, 1, 40)")
                    .row(0, "1:10:119 2:7:120 4:7:77");
            links(threeLeaves(), 5, 12, 14, 1).row(0, "1:10:119 2:10:116 4:10:110").does("link(5, 15, 2)")
                    .row(0, "1:10:119 2:10:116 4:10:110 5:1:11");
        });
    }

    private void newLeaves() {
        says("Terms (13)", "if it still has more, a new leaf behind it (a block is TAKEN) gets its last items, one by one, "
                + "until it has 120 or less", () -> {
            links(threeLeaves(), 5, 12, 14, 1).does("fill(4, 0, 1, 7)").row(0, "1:10:119 2:10:120 5:1:11 4:10:110");
            links(threeLeaves(), 5, 12, 14, 1).does("fill(4, 0, 1, 8)").row(0, "1:10:119 2:9:110 5:2:22 4:10:110");
            links(unlinks(threeLeaves(), 3, 1, 1, 1), 5, 12, 13, 1).row(0, "1:9:108 2:10:116 4:9:99")
                    .does("fill(4, 0, 1, 40)")
                    .row(0, "1:10:119 2:7:120 5:2:22 4:10:110").row(1, "3:4").parents(0, "3 3 3 3");
            fourLeaves().does("link(3, 5, 2)").row(0, "1:7:83 2:7:114 6:1:14 4:8:111 5:1:48");
        });
    }

    private void belonging() {
        says("Terms (13, 14)", "all items of a leaf are before those of the next one", () -> {
            Run r = threeLeaves();
            int[] leaves = {1, 2, 4};
            int[] ends = {9, 19, 26};
            int[][] firsts = {{1, 0, 0}, {3, 1, 4}, {5, 1, 5}};
            int[][] lasts = {{3, 1, 3}, {5, 1, 4}, {5, 1, 11}};
            for (int leaf = 0; leaf < 3; leaf++) {
                int first = leaf == 0 ? 0 : ends[leaf - 1] + 1;
                for (int what = 0; what <= 2; what++) {
                    r.due("item(" + first + ", " + what + ")", firsts[leaf][what]);
                    r.due("item(" + ends[leaf] + ", " + what + ")", lasts[leaf][what]);
                }
                r.due("item(" + first + ", 4)", leaves[leaf]).due("item(" + ends[leaf] + ", 4)", leaves[leaf]);
            }
        });
        says("Terms (13, 14)", "An item BELONGS to the last leaf whose first item is not behind it in order", () -> {
            threeLeaves().does("unlink(5, 4)").row(0, "1:10:119 2:9:105 4:7:77").does("link(5, 4, 2)")
                    .row(0, "1:10:119 2:10:116 4:7:77");
            threeLeaves().does("unlink(5, 5)").row(0, "1:10:119 2:10:116 4:6:66").does("link(5, 5, 2)")
                    .row(0, "1:10:119 2:10:116 4:7:77");
            threeLeaves().does("unlink(5, 5)", "unlink(3, 1)", "link(5, 5, 2)").row(0, "1:10:119 2:10:116 4:6:66")
                    .due("item(19, 2)", 5)
                    .due("item(19, 4)", 2).due("item(20, 2)", 6).due("item(20, 4)", 4);
            threeLeaves().does("link(5, 99, 2)").row(0, "1:10:119 2:10:116 4:8:88").does("link(5, 50, 2)")
                    .row(0, "1:10:119 2:10:116 4:9:99");
        });
    }

    /** The leaf of 2 TAIL stands alone between one that ends with 2 STAT and one that begins with 3 STAT. */
    private Run loneTail() {
        Run r = on(96, 64).does("make(1, 0, false)", "make(1, 1, false)", "make(1, 2, true)", "move(1, 0, 4, 0)",
                "move(1, 1, 4, 1)");
        links(r, 1, 10, 16, 1).does("fill(3, 0, 1, 40)");
        links(r, 4, 2, 7, 1).does("link(4, 8, 3)", "fill(2, 0, 1, 40)").row(0, "1:10:116 5:1:48 2:7:120 4:5:55");
        return unlinks(unlinks(r, 1, 10, 16, 1), 4, 0, 3, 1).row(0, "1:3:39 5:1:48 2:3:76 4:5:55");
    }

    private void emptyLeaves() {
        says("Terms (13)", "If it is empty (and not alone), it is GONE, and the one before it (behind it, if there is none) is looked at",
                () -> {
                    fourLeaves().does("cut(6, 1)").row(0, "1:7:83 2:7:117 4:8:111 5:1:9").does("cut(6, 0)")
                            .row(0, "1:7:83 2:7:117 4:8:111").row(1, "3:3").due("count(0)", 5);
                    loneTail().does("cut(3, 0)").row(0, "1:3:39 5:1:48 2:2:28 4:5:55").does("cut(2, 0)")
                            .row(0, "1:5:67 4:5:55")
                            .row(1, "3:2").due("count(0)", 4);
                    loneTail().does("cut(3, 1)", "cut(2, 0)").row(0, "1:3:39 2:3:37 4:5:55").row(1, "3:3");
                    on(16, 6).does("make(1, 0, true)", "unlink(1, 0)").row(0, "1:1:14").due("count(0)", 2);
                });
    }

    /** Leaves of 25, 76, 22: [1 STAT, ENTRY] [2 STAT, 2 TAIL of 40, 3 STAT] [two entries of 3]. */
    private Run smallLeaves() {
        Run r = on(96, 64).does("make(1, 0, false)", "make(1, 1, true)", "move(1, 0, 3, 0)", "fill(2, 0, 1, 40)");
        links(r, 1, 2, 11, 1).does("link(3, 1, 2)", "link(3, 2, 2)", "link(3, 3, 2)", "unlink(3, 0)", "unlink(3, 1)");
        return unlinks(r, 1, 2, 11, 1).row(0, "1:2:25 2:3:76 4:2:22");
    }

    private void joiningLeaves() {
        says("Terms (13)", "otherwise, if it and the leaf before have 72 together or less, its items go there, it is GONE, and the "
                + "other one is looked at", () -> {
            named(96, 9).does("fill(2, 0, 1, 5)", "unlink(1, 0)", "unlink(1, 1)", "unlink(1, 2)", "unlink(1, 3)",
                    "unlink(1, 4)",
                    "unlink(1, 5)").row(0, "1:4:47 2:2:27").does("cut(2, 4)").row(0, "1:4:47 2:2:26").does("cut(2, 3)")
                    .row(0, "1:6:72")
                    .due("count(0)", 2).due("count(2)", 1).due("node(0, 0, 3)", -1);
            smallLeaves().does("cut(2, 11)").row(0, "1:5:72 4:2:22").row(1, "3:2");
            smallLeaves().does("cut(2, 0)").row(0, "1:4:53 4:2:22").row(1, "3:2");
            smallLeaves().does("unlink(3, 3)").row(0, "1:2:25 2:3:76 4:1:11").does("cut(2, 0)").row(0, "1:5:64")
                    .due("count(0)", 2);
        });
        says("Terms (13)", "otherwise, if it and the leaf behind have 72 together or less, the items of that one come to it, that one "
                + "is GONE, and it is looked at again", () -> {
            unlinks(named(96, 9).does("fill(2, 0, 1, 3)"), 1, 0, 4, 1).row(0, "1:5:58 2:2:25").does("unlink(1, 5)")
                    .row(0, "1:6:72")
                    .due("count(0)", 2).due("count(2)", 1);
            unlinks(named(96, 9).does("fill(2, 0, 1, 4)"), 1, 0, 5, 1).row(0, "1:4:47 2:2:26").does("unlink(1, 6)")
                    .row(0, "1:5:62");
            smallLeaves().does("cut(2, 12)").row(0, "1:2:25 2:5:70").row(1, "3:2").due("count(0)", 4);
            smallLeaves().does("cut(2, 14)").row(0, "1:2:25 2:5:72");
            smallLeaves().does("cut(2, 15)").row(0, "1:2:25 2:3:51 4:2:22").row(1, "3:3");
            smallLeaves().does("cut(2, 15)", "cut(2, 14)").row(0, "1:2:25 2:5:72");
        });
    }

    /** Leaves of ten entries each, the last one aside, under nodes of three and a last one of three to five. */
    private Run rowOfLeaves(int blocks, int names, int step) {
        return links(on(blocks, 64).does("make(1, 0, false)"), 1, step, names * step, step);
    }

    /** Under 9: 3 (1, 2, 4), 8 (5, 6, 7), 13 (10, 11, 12, 14, 15). */
    private Run elevenLeaves() {
        return rowOfLeaves(96, 98, 10).row(2, "9:3").row(1, "3:3 8:3 13:5").parents(0, "3 3 3 8 8 8 13 13 13 13 13")
                .row(0, "1:10:113 2:10:110 4:10:110 5:10:110 6:10:110 7:10:110 10:10:110 11:10:110 12:10:110 14:10:110 15:1:14");
    }

    private Run drop(Run r, int... names) {
        for (int name : names) {
            unlinks(r, 1, name, name + 90, 10);
        }
        return r;
    }

    private void addedNodes() {
        says("Terms (13)", "the ROOT NODE is the one without a parent (a leaf, if it is alone)", () -> {
            named(96, 8).row(0, "1:10:116").parents(0, "-1").due("count(2)", 1).refused("node(1, 0, 0)", INDEX);
            named(96, 9).parents(0, "3 3").parents(1, "-1").due("count(2)", 2)
                    .does("unlink(1, 8)", "unlink(1, 7)", "unlink(1, 6)",
                    "unlink(1, 5)", "unlink(1, 4)").parents(0, "-1").due("count(2)", 1).refused("node(1, 0, 0)", INDEX);
        });
        says("Terms (13)", "without a parent a new root node (a block is TAKEN) has both", () -> {
            named(96, 9).row(1, "3:2").parents(0, "3 3").parents(1, "-1").due("count(2)", 2).due("count(0)", 4);
            named(96, 8).does("fill(2, 0, 1, 128)").row(0, "1:10:116 3:1:10").row(1, "4:2").due("about(2, 5)", 2);
        });
        says("Terms (13)", "else it comes behind that one among its parent's children", () -> rowOfLeaves(96, 28, 10)
                .row(1, "3:4")
                .row(0, "1:10:113 2:10:110 4:10:110 5:1:14").does("link(1, 11, 2)").row(1, "3:5")
                .row(0, "1:10:113 6:1:11 2:10:110 4:10:110 5:1:14").parents(0, "3 3 3 3 3").due("count(2)", 2));
        says("Terms (13)", "if these are six, a new node behind the parent (a block is TAKEN) gets the last three, and is added behind "
                + "it likewise", () -> {
            rowOfLeaves(96, 39, 10).row(1, "3:5").due("count(2)", 2).does("link(1, 11, 2)").row(2, "9:2")
                    .row(1, "3:3 8:3")
                    .row(0, "1:10:113 7:1:11 2:10:110 4:10:110 5:10:110 6:2:25").parents(0, "3 3 3 8 8 8")
                    .parents(1, "9 9");
            rowOfLeaves(96, 39, 10).does("link(1, 291, 2)", "link(1, 292, 2)").row(1, "3:5").does("link(1, 191, 2)")
                    .row(1, "3:3 8:3")
                    .row(0, "1:10:113 2:10:110 4:10:110 7:1:11 5:10:110 6:4:47").parents(0, "3 3 3 8 8 8");
            links(elevenLeaves().does("link(1, 291, 2)", "link(1, 491, 2)"), 1, 381, 389, 1).row(1, "3:3 8:5 13:5")
                    .does("link(1, 292, 2)").row(2, "9:4").row(1, "3:3 8:3 19:3 13:5")
                    .parents(0, "3 3 3 8 8 8 19 19 19 13 13 13 13 13").due("node(0, 4, 0)", 18).due("node(0, 6, 0)", 6);
            elevenLeaves().does("link(1, 591, 2)").row(2, "9:4").row(1, "3:3 8:3 13:3 17:3")
                    .parents(0, "3 3 3 8 8 8 13 13 13 17 17 17").parents(1, "9 9 9 9");
        });
        says("Terms (3)", "(a block is TAKEN) gets the last three", () -> {
            rowOfLeaves(16, 39, 10).does("fill(2, 0, 1, 512)", "fill(2, 512, 1, 256)").due("count(0)", 13)
                    .due("link(1, 11, 2)", 41)
                    .row(2, "15:2").row(1, "3:3 14:3").row(0, "1:10:113 13:1:11 2:10:110 4:10:110 5:10:110 6:3:45")
                    .due("count(0)", 16);
            rowOfLeaves(16, 39, 10).does("fill(2, 0, 1, 512)", "fill(2, 512, 1, 384)").due("count(0)", 14)
                    .refused("link(1, 11, 2)", STATE);
            rowOfLeaves(16, 39, 10).does("fill(2, 0, 1, 512)", "fill(2, 512, 1, 512)").due("count(0)", 15)
                    .refused("link(1, 11, 2)", STATE)
                    .due("link(1, 391, 2)", 41);
        });
        says("Terms (13, 21)",
                "INNER NODES have 2 to 5 children, which are all leaves, or all inner nodes of the same height", () ->
                rowOfLeaves(96, 190, 5).due("count(2)", 4).row(3, "27:2").row(2, "9:3 26:3")
                        .row(1, "3:3 8:3 13:3 17:3 21:3 25:5")
                        .parents(1, "9 9 9 26 26 26").parents(2, "27 27")
                        .parents(0, "3 3 3 8 8 8 13 13 13 17 17 17 21 21 21 25 25 25 25 25"));
    }

    private void nodesThatAreGone() {
        says("Terms (13)", "A node is GONE: its block is free, its parent has it no more", () -> drop(elevenLeaves(),
                290)
                .row(1, "3:3 8:2 13:5").parents(0, "3 3 3 8 8 13 13 13 13 13").due("count(0)", 15)
                .does("link(1, 11, 2)")
                .row(1, "3:4 8:2 13:5").due("node(0, 1, 0)", 5));
        says("Terms (13)", "otherwise the child goes to the end of the node before the parent in its row, if that has less than five",
                () -> {
                    drop(elevenLeaves(), 290, 390).row(2, "9:2").row(1, "3:4 13:5").parents(0, "3 3 3 3 13 13 13 13 13")
                            .due("node(0, 3, 0)", 7).due("count(0)", 13);
                    drop(elevenLeaves().does("link(1, 11, 2)"), 290, 390).row(1, "3:5 13:5")
                            .parents(0, "3 3 3 3 3 13 13 13 13 13")
                            .due("node(0, 4, 0)", 7);
                    drop(elevenLeaves(), 490, 390).row(1, "3:4 13:5").due("node(0, 3, 0)", 5)
                            .parents(0, "3 3 3 3 13 13 13 13 13");
                });
        says("Terms (13)", "else to the beginning of the node behind, if that has less than five, and the parent is gone likewise", () -> {
            drop(elevenLeaves().does("link(1, 11, 2)", "link(1, 191, 2)"), 590, 290, 390).row(2, "9:2")
                    .row(1, "3:5 13:5")
                    .parents(0, "3 3 3 3 3 13 13 13 13 13").due("node(0, 5, 0)", 7).due("count(0)", 14);
            drop(elevenLeaves(), 90, 190).row(1, "8:4 13:5").parents(0, "8 8 8 8 13 13 13 13 13")
                    .due("node(0, 0, 0)", 1)
                    .due("item(0, 4)", 1).due("count(0)", 13);
            drop(elevenLeaves().does("link(1, 291, 2)"), 190, 90).row(1, "8:5 13:5")
                    .parents(0, "8 8 8 8 8 13 13 13 13 13");
        });
        says("Terms (13)", "(the one before, or if there is none the one behind, has five) the parent gets the last child of the one "
                + "before in front, or the first child of the one behind at its end", () -> {
            drop(elevenLeaves().does("link(1, 11, 2)", "link(1, 191, 2)"), 290, 390).row(2, "9:3")
                    .row(1, "3:4 8:2 13:5")
                    .parents(0, "3 3 3 3 8 8 13 13 13 13 13").due("node(0, 4, 0)", 17).due("node(0, 5, 0)", 7)
                    .does("link(1, 281, 2)", "commit()", "unlink(1, 280)").due("count(6)", 5)
                    .does("commit()", "unlink(1, 490)")
                    .due("count(6)", 4);
            drop(elevenLeaves().does("link(1, 291, 2)", "link(1, 491, 2)"), 90, 190).row(2, "9:3")
                    .row(1, "3:2 8:4 13:5")
                    .parents(0, "3 3 8 8 8 8 13 13 13 13 13").due("node(0, 0, 0)", 1).due("node(0, 1, 0)", 5)
                    .does("commit()", "unlink(1, 290)").due("count(6)", 4)
                    .does("commit()", "link(1, 381, 2)", "commit()", "unlink(1, 380)")
                    .due("count(6)", 5);
            Run last = drop(elevenLeaves().does("link(1, 291, 2)", "link(1, 491, 2)"), 590, 690, 790)
                    .row(1, "3:3 8:5 13:2");
            unlinks(last, 1, 890, 930, 10).row(1, "3:3 8:4 13:2").parents(0, "3 3 3 8 8 8 8 13 13")
                    .due("node(0, 7, 0)", 17)
                    .due("node(0, 8, 0)", 15);
        });
        says("Terms (13, 21)", "a root node is gone, and that child is the root node", () -> {
            Run r = drop(elevenLeaves(), 290, 390, 590, 90, 190).row(2, "9:2").row(1, "3:2 13:4").due("count(2)", 3);
            drop(r, 490).row(1, "13:5").parents(0, "13 13 13 13 13").parents(1, "-1").due("count(2)", 2)
                    .due("count(0)", 7)
                    .refused("node(2, 0, 0)", INDEX);
        });
        says("Terms (13)", "and the parent is gone likewise", () -> {
            Run r = rowOfLeaves(96, 190, 5);
            unlinks(r, 1, 445, 540, 5).row(3, "27:2").row(2, "9:3 26:2").row(1, "3:3 8:3 13:4 21:3 25:5")
                    .parents(1, "9 9 9 26 26");
            unlinks(r, 1, 595, 690, 5).row(2, "9:4").row(1, "3:3 8:3 13:5 25:5").parents(1, "9 9 9 9").parents(2, "-1")
                    .due("count(2)", 3).due("count(0)", 22);
        });
    }

    private void filesThatChange() {
        says("Terms (6, 7)", "data blocks that it has too few are TAKEN, from the first one on", () -> {
            named(96, 8).does("fill(2, 0, 1, 300)").due("about(2, 5)", 2).due("about(2, 6)", 3).due("about(2, 7)", 4)
                    .row(0, "1:10:116 5:1:14").row(1, "6:2");
            withFile().does("make(1, 1, false)", "fill(2, 0, 1, 128)", "fill(3, 0, 1, 128)", "fill(2, 128, 1, 128)",
                    "fill(3, 128, 1, 128)",
                    "cut(2, 0)").due("fill(2, 0, 1, 384)", 384).due("about(2, 5)", 2).due("about(2, 6)", 4)
                    .due("about(2, 7)", 6);
        });
        says("Terms (8)", "those that it has too many are free, from the last one on", () -> {
            withFile().does("fill(2, 0, 1, 512)", "make(1, 1, false)").due("cut(2, 256)", 2).due("about(2, 5)", 2)
                    .due("about(2, 6)", 3)
                    .refused("about(2, 7)", INDEX).does("fill(3, 0, 1, 128)").due("about(3, 5)", 4)
                    .due("read(2, 255)", 1 + 7 * 255 & 255);
            named(96, 7).does("fill(2, 0, 1, 41)").row(0, "1:10:115").does("cut(2, 40)").row(0, "1:9:105 2:1:48")
                    .row(1, "3:2");
        });
        says("Terms (6, 8)", "its POINTERS are put in, grow, shrink, or go; then its TAIL likewise", () -> {
            named(96, 7).does("fill(2, 0, 1, 41)").row(0, "1:10:115").does("cut(2, 7)").row(0, "1:10:120");
            named(96, 7).does("fill(2, 0, 1, 41)", "cut(2, 8)").row(0, "1:9:105 2:1:16");
            named(96, 1).does("make(1, 1, false)", "fill(3, 0, 1, 40)", "fill(3, 0, 1, 404)").row(0, "1:6:78 5:1:28")
                    .row(1, "6:2");
            Run r = on(16, 64).does("make(1, 0, false)", "make(1, 1, false)", "fill(2, 0, 1, 14)", "fill(3, 0, 1, 512)",
                    "fill(3, 512, 1, 512)", "fill(3, 1024, 1, 512)", "fill(3, 1536, 1, 128)").row(0, "1:7:120")
                    .due("count(0)", 15);
            r.refused("fill(2, 14, 1, 27)", STATE).does("cut(3, 1408)").row(0, "1:7:116").due("fill(2, 14, 1, 27)", 41);
            r.due("count(0)", 16).row(0, "1:6:74 14:1:30").row(1, "15:2").due("about(2, 5)", 13);
        });
        says("Terms (6, 7)", "(a body of the same size is just changed)", () -> named(96, 5).does("fill(2, 0, 1, 29)")
                .row(0, "1:8:120")
                .due("fill(2, 0, 9, 29)", 29).row(0, "1:8:120").due("read(2, 28)", 9 + 7 * 28 & 255)
                .due("write(2, 28, 3, 1)", 29)
                .due("read(2, 28)", 3).row(0, "1:8:120").due("count(0)", 2));
    }

    /** Runs whose end tells in which order items were put in and went. */
    private void orderOfItems() {
        says("2", "Its STAT is put in, then the ENTRY, then the directory's STAT is changed", () -> on(96, 64)
                .does("make(1, 0, true)", "make(2, 0, false)", "fill(3, 0, 0, 21)", "make(1, 1, true)",
                "make(4, 0, false)",
                        "make(4, 1, false)", "make(1, 2, false)", "make(2, 1, false)").row(0, "1:8:97 4:1:29 2:7:92")
                        .row(1, "3:3")
                .due("about(2, 2)", 2));
        says("4", "The ENTRY goes, the directory's STAT is changed, then the object's", () -> on(96, 64)
                .does("make(1, 0, false)", "make(1, 7, false)", "fill(3, 0, 0, 40)", "fill(2, 0, 0, 423)",
                "make(1, 1, false)",
                        "make(1, 2, false)", "cut(2, 1)", "unlink(1, 7)").row(0, "1:6:70 5:2:28").row(1, "6:2")
                        .due("about(1, 2)", 3));
        says("4", "its data blocks, from the last one on, its TAIL, POINTERS, STAT", () -> {
            on(96, 64).does("make(1, 1, false)", "make(1, 3, false)", "make(1, 2, false)", "fill(3, 0, 0, 418)",
                    "fill(4, 0, 0, 1)",
                    "make(1, 12, false)", "make(1, 0, false)", "make(1, 5, false)", "unlink(1, 0)", "unlink(1, 3)")
                    .row(0, "1:6:72 7:4:51");
            on(96, 64).does("make(1, 0, true)", "make(1, 1, false)", "make(1, 11, false)", "make(1, 3, false)",
                    "make(1, 5, false)",
                    "fill(5, 0, 0, 5)", "fill(4, 0, 0, 288)", "make(1, 2, false)", "unlink(1, 11)")
                    .row(0, "1:8:97 6:4:55");
            on(96, 64).does("make(1, 0, false)", "make(1, 3, false)", "fill(3, 0, 0, 420)", "make(1, 1, false)",
                    "fill(4, 0, 0, 29)",
                    "fill(2, 0, 0, 36)", "make(1, 2, false)", "unlink(1, 3)").row(0, "1:6:105 8:3:65");
        });
        says("5", "The ENTRY goes, the first directory's STAT is changed, the new ENTRY is put in, the other directory's STAT is changed",
                () -> {
                    named(96, 5).does("fill(2, 0, 1, 29)").row(0, "1:8:120").does("move(1, 4, 1, 999)")
                            .row(0, "1:8:120")
                            .due("count(0)", 2).due("about(1, 2)", 5);
                    smallLeaves().does("cut(2, 15)").row(0, "1:2:25 2:3:51 4:2:22").does("move(3, 3, 1, 5)")
                            .row(0, "1:3:36 2:4:62");
                });
    }
}

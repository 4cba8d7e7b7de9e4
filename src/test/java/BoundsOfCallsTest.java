import java.io.IOException;

/** Promises 1 to 14 and 21: what each call takes and refuses, just inside and just outside of its bounds. */
public final class BoundsOfCallsTest extends Bounds {
    /** Four leaves and the root node above them. */
    private static final int NODES_OF_SIX_FILES = 5;

    public static void main(String[] args) throws IOException {
        new BoundsOfCallsTest().begin(args);
    }

    @Override
    void all() {
        newObject();
        objects();
        make();
        link();
        unlink();
        move();
        write();
        fill();
        cut();
        read();
        look();
        name();
        about();
        node();
        item();
        count();
        without();
        orderOfExceptions();
    }

    private Run withFile() {
        return on(96, 64).does("make(1, 0, false)");
    }

    /** A file 2 and a directory 3. */
    private Run withBoth() {
        return withFile().does("make(1, 1, true)");
    }

    /** Sixteen blocks, all in use: block 0, one leaf (75 USED), fourteen of data of file 2. */
    private Run full() {
        return on(16, 64).does("make(1, 0, false)", "fill(2, 0, 1, 512)", "fill(2, 512, 1, 512)",
                "fill(2, 1024, 1, 512)", "fill(2, 1536, 1, 256)");
    }

    /** No such object is a directory: too small, too large, never made, gone, a file (2), 1 but for higher bits. */
    private void noDirectory(Run r, String before, String after) {
        r.does("make(1, 997, true)", "unlink(1, 997)");
        for (String dir : new String[] {"0", "-1", "61", "least", "greatest", "2", "4", "60", "257", "65537",
                "134217729"}) {
            r.refused(before + dir + after, INDEX);
        }
    }

    /** No such object is a file: too small, too large, never made, gone, a directory (1, 3), 2 but for higher bits. */
    private void noFile(Run r, String before, String after) {
        r.does("make(1, 997, false)", "unlink(1, 997)");
        for (String object : new String[] {"0", "-1", "61", "least", "greatest", "1", "3", "4", "60", "258", "65538",
                "134217730"}) {
            r.refused(before + object + after, INDEX);
        }
    }

    private void newObject() {
        says("1", "So many blocks, the nearest of 16 .. 96", () -> {
            for (int blocks : new int[] {Integer.MIN_VALUE, -1, 0, 15, 16, 17}) {
                int data = blocks <= 16 ? 14 : 15;
                Run r = on(blocks, 64).does("make(1, 0, false)");
                for (int k = 0; k < data; k++) {
                    r.due("fill(2, " + 128 * k + ", 1, 128)", 128 * k + 128);
                }
                r.due("count(0)", data + 2).refused("write(2, " + 128 * data + ", 0, 1)", STATE);
            }
            for (int blocks : new int[] {95, 96, 97, Integer.MAX_VALUE}) {
                allBlocks(blocks, Math.min(blocks, 96));
            }
        });
        says("1", "a journal of so many, the nearest of 6 .. 64", () -> {
            int[][] rows = {{Integer.MIN_VALUE, 6}, {-1, 6}, {0, 6}, {5, 6}, {6, 6}, {7, 7}, {63, 63}, {64, 64},
                {65, 64}, {Integer.MAX_VALUE, 64}};
            for (int[] row : rows) {
                greatestCommit(row[0], row[1]);
            }
        });
        says("1", "The root directory is there, empty, in block 1, the only leaf", () -> on(16, 6)
                .due("count(0)", 2).due("count(1)", 1).due("count(2)", 1).due("count(3)", 1).due("count(4)", 1)
                .due("count(5)", 14).due("about(1, 0)", 0).due("about(1, 1)", 1).due("about(1, 2)", 0)
                .due("about(1, 3)", 0).due("about(1, 4)", 0).due("node(0, 0, 0)", 1).due("node(0, 0, 1)", 1)
                .due("node(0, 0, 2)", 14).due("node(0, 0, 3)", -1).due("item(0, 0)", 1).due("item(0, 1)", 0)
                .due("item(0, 2)", 0).due("item(0, 3)", 6).due("item(0, 4)", 1).due("look(1, 0)", -1)
                .refused("name(1, 0)", INDEX).refused("item(1, 0)", INDEX).refused("node(0, 1, 0)", INDEX));
        says("1", "all that is committed and at home, the journal is empty, the power is on and does not FAIL", () -> {
            on(16, 6).due("off()", 0).due("count(6)", 0).due("count(7)", 0).due("count(8)", 0).due("count(9)", 0)
                    .due("back()", 0).due("commit()", 0).due("checkpoint()", 0).due("count(3)", 1).due("count(9)", 0)
                    .refused("recover()", STATE);
            Run r = on(16, 6);
            for (int k = 0; k < 40; k++) {
                r.does("make(1, " + k + ", true)", "commit()", "unlink(1, " + k + ")", "commit()");
            }
            r.due("off()", 0).due("count(9)", 80);
        });
    }

    /** Six files: five of 2048 bytes, the last one with all blocks that are left. */
    private void allBlocks(int blocks, int due) {
        Run r = on(blocks, 64);
        for (int f = 2; f <= 7; f++) {
            r.does("make(1, " + f + ", false)");
        }
        for (int f = 2; f <= 6; f++) {
            for (int at = 0; at < 2048; at += 512) {
                r.does("fill(" + f + ", " + at + ", 1, 512)");
            }
        }
        r.due("count(0)", 80 + 1 + NODES_OF_SIX_FILES);
        int size = 0;
        for (int left = due - 80 - 1 - NODES_OF_SIX_FILES; left > 0; left--) {
            r.does("fill(7, " + size + ", 1, 128)");
            size += 128;
        }
        r.due("count(0)", due).refused("write(7, " + size + ", 0, 1)", STATE);
    }

    /** Data blocks of committed files are changed, one byte each: so many and two are written. */
    private void greatestCommit(int journal, int due) {
        Run r = on(96, journal);
        int data = due - 1;
        for (int k = 0; k < data; k++) {
            int file = 2 + k / 16;
            int at = k % 16 * 128;
            if (at == 0) {
                r.does("make(1, " + file + ", false)", "commit()");
            }
            r.does("fill(" + file + ", " + at + ", 1, 128)", "commit()");
        }
        for (int k = 0; k < data; k++) {
            r.does("write(" + (2 + k / 16) + ", " + k % 16 * 128 + ", 77, 1)");
        }
        r.due("count(6)", data).refused("commit()", STATE);
        r.does("write(2, 0, 1, 1)", "checkpoint()").due("count(6)", data - 1).due("commit()", due);
    }

    private void objects() {
        says("Terms (2, 12)", "OBJECTS have numbers 1 .. 60: 1 is the ROOT DIRECTORY", () -> {
            Run r = on(96, 64).refused("about(0, 0)", INDEX).due("about(1, 0)", 0).refused("about(2, 0)", INDEX);
            sixty(r);
            r.due("about(60, 0)", 1).refused("about(61, 0)", INDEX).refused("about(least, 0)", INDEX)
                    .refused("about(greatest, 0)", INDEX).due("fill(60, 0, 5, 424)", 424).due("about(60, 4)", 40)
                    .due("read(60, 423)", 5 + 7 * 423 & 255).due("fill(60, 424, 5, 512)", 936)
                    .due("fill(60, 936, 5, 512)", 1448)
                    .due("fill(60, 1448, 5, 512)", 1960).due("about(60, 3)", 16)
                    .due("read(60, 1959)", 5 + 7 * 511 & 255);
        });
        says("Terms (2)", "a new one gets the least number that is free", () -> withBoth()
                .does("make(1, 2, false)", "make(1, 3, false)", "unlink(1, 2)").due("make(1, 2, true)", 4)
                .does("unlink(1, 1)", "unlink(1, 0)").due("make(1, 0, true)", 2).due("make(1, 1, false)", 3)
                .due("make(1, 4, false)", 6));
        says("Terms (2, 10, 11)", "a NAME 0 .. 999 and an object each", () -> on(96, 64)
                .due("make(1, 999, false)", 2).due("make(1, 0, true)", 3).due("make(3, 999, true)", 4)
                .due("make(3, 0, false)", 5).due("look(1, 0)", 3).due("look(1, 999)", 2).due("look(3, 0)", 5)
                .due("look(3, 999)", 4).due("name(1, 0)", 0).due("name(1, 1)", 999).due("name(3, 1)", 999)
                .due("item(1, 2)", 0).due("item(2, 2)", 999));
        says("Terms (3, 4, 12)", "LINKS of an object are how many entries tell it (1 for the root directory, always)",
                () -> withBoth().due("about(1, 1)", 1).due("about(2, 1)", 1).does("link(1, 2, 2)", "link(3, 0, 2)")
                        .due("about(2, 1)", 3).due("about(1, 1)", 1).does("unlink(1, 0)").due("about(2, 1)", 2)
                        .does("move(1, 2, 3, 7)").due("about(2, 1)", 2)
                        .does("unlink(3, 0)", "unlink(3, 7)", "unlink(1, 1)")
                        .due("about(1, 1)", 1).due("about(1, 2)", 0));
        says("Terms (2, 5, 12)", "a directory other than it has one", () -> withBoth().due("about(3, 1)", 1)
                .does("make(3, 0, true)", "make(3, 1, true)", "move(3, 0, 1, 9)").due("about(3, 1)", 1)
                .due("about(4, 1)", 1).refused("link(1, 8, 3)", INDEX).due("unlink(1, 9)", 0));
        says("Terms (4, 12)", "A FILE has a SIZE, 0 .. 2048", () -> withFile().due("about(2, 2)", 0)
                .does("fill(2, 0, 1, 512)", "fill(2, 512, 1, 512)", "fill(2, 1024, 1, 512)")
                .due("fill(2, 1536, 1, 512)", 2048)
                .due("about(2, 2)", 2048).due("read(2, 2047)", 1 + 7 * 511 & 255)
                .refused("write(2, 2048, 0, 1)", ARGUMENT));
        says("(all)", "An object is used for at most 512 calls after it has been made", () -> {
            Run r = on(96, 64);
            for (int k = 0; k < 102; k++) {
                r.due("make(1, 5, false)", 2).due("fill(2, 0, 1, 200)", 200)
                        .due("commit()", k > 0 && k % 6 == 0 ? 5 + 6 : 6)
                        .does("unlink(1, 5)", "commit()");
            }
            r.due("count(9)", 204).due("count(3)", 1);
        });
    }

    /** Files until there are sixty objects, each under its number. */
    private void sixty(Run r) {
        for (int k = 2; k <= 60; k++) {
            r.due("make(1, " + k + ", false)", k);
        }
    }

    private void make() {
        says("2", "A new directory or file (of SIZE 0) under a name: its number", () -> on(96, 64)
                .due("make(1, 7, false)", 2).due("about(2, 0)", 1).due("about(2, 1)", 1).due("about(2, 2)", 0)
                .due("about(2, 3)", 0).due("about(2, 4)", 0).due("make(1, 6, true)", 3).due("about(3, 0)", 0)
                .due("about(3, 2)", 0).due("look(1, 7)", 2).due("about(1, 2)", 2).due("count(4)", 5)
                .refused("read(2, 0)", INDEX).refused("name(3, 0)", INDEX)
                .does("fill(2, 0, 1, 300)", "unlink(1, 7)").due("make(1, 7, false)", 2).due("about(2, 2)", 0)
                .refused("read(2, 0)", INDEX));
        says("2", "IndexOutOfBoundsException: dir is no directory", () -> {
            noDirectory(withBoth(), "make(", ", 5, false)");
            withBoth().due("make(3, 5, true)", 4).due("make(4, 5, true)", 5).refused("make(6, 5, true)", INDEX);
        });
        says("2", "IllegalArgumentException: another name than 0 .. 999", () -> {
            Run r = on(96, 64).due("make(1, 0, false)", 2).due("make(1, 999, true)", 3);
            for (String name : new String[] {"-1", "1000", "least", "greatest", "-1000", "1999"}) {
                r.refused("make(1, " + name + ", false)", ARGUMENT).refused("make(3, " + name + ", true)", ARGUMENT);
            }
            r.due("make(3, 0, false)", 4).due("make(3, 999, false)", 5);
        });
        says("2", "IllegalStateException: it has that name", () -> withBoth().refused("make(1, 0, false)", STATE)
                .refused("make(1, 0, true)", STATE).refused("make(1, 1, true)", STATE).due("make(3, 0, false)", 4)
                .due("make(1, 2, true)", 5).does("unlink(1, 0)").due("make(1, 0, false)", 2)
                .refused("make(3, 0, true)", STATE));
        says("2", "there are 60 objects", () -> {
            Run r = on(96, 64);
            sixty(r);
            r.refused("make(1, 61, false)", STATE).refused("make(1, 61, true)", STATE).does("unlink(1, 33)")
                    .due("make(1, 61, true)", 33).refused("make(33, 0, false)", STATE);
        });
        says("2", "no room", () -> {
            full().due("make(1, 1, true)", 3).due("count(5)", 100).refused("make(1, 2, false)", STATE)
                    .refused("make(3, 2, true)", STATE).due("link(1, 9, 2)", 2);
            full().does("link(1, 10, 2)").due("make(1, 1, false)", 3).due("count(5)", 111);
            full().does("link(1, 10, 2)", "link(1, 11, 2)").refused("make(1, 1, false)", STATE);
            full().does("link(1, 10, 2)", "link(1, 11, 2)", "link(1, 12, 2)", "link(1, 13, 2)").due("count(5)", 119)
                    .refused("make(1, 1, false)", STATE).does("cut(2, 1536)").due("make(1, 1, false)", 3)
                    .due("count(0)", 16);
        });
    }

    private void link() {
        says("3", "One more entry for a file: its LINKS", () -> withBoth().due("link(1, 5, 2)", 2)
                .due("link(3, 5, 2)", 3).due("link(3, 0, 2)", 4).due("about(2, 1)", 4).due("about(1, 2)", 3)
                .due("about(3, 2)", 2).due("count(3)", 3).due("look(3, 5)", 2));
        says("3", "IndexOutOfBoundsException: dir is no directory", () -> noDirectory(withBoth(), "link(", ", 5, 2)"));
        says("3", "object no file", () -> {
            noFile(withBoth(), "link(1, 5, ", ")");
            noFile(withBoth(), "link(3, 5, ", ")");
        });
        says("3", "IllegalArgumentException: another name than 0 .. 999", () -> {
            Run r = withBoth();
            for (String name : new String[] {"-1", "1000", "least", "greatest", "8000", "-8000"}) {
                r.refused("link(3, " + name + ", 2)", ARGUMENT);
            }
            r.due("link(3, 0, 2)", 2).due("link(3, 999, 2)", 3).refused("link(1, 1000, 2)", ARGUMENT);
        });
        says("3", "IllegalStateException: it has that name", () -> withBoth().refused("link(1, 0, 2)", STATE)
                .refused("link(1, 1, 2)", STATE).due("link(3, 0, 2)", 2).refused("link(3, 0, 2)", STATE)
                .does("unlink(3, 0)").due("link(3, 0, 2)", 2));
        says("3", "no room", () -> {
            full().does("make(1, 1, false)", "write(3, 0, 0, 1)").due("count(5)", 109).due("link(1, 5, 3)", 2)
                    .due("count(5)", 120).refused("link(1, 6, 3)", STATE);
            full().does("make(1, 1, false)", "write(3, 0, 0, 2)").due("count(5)", 110).refused("link(1, 5, 3)", STATE)
                    .does("cut(3, 1)").due("link(1, 5, 3)", 2);
        });
    }

    private void unlink() {
        says("4", "An entry goes: the LINKS that its object has left", () -> withBoth()
                .does("link(1, 5, 2)", "link(3, 5, 2)").due("unlink(1, 5)", 2).due("unlink(1, 0)", 1)
                .due("about(2, 1)", 1).due("look(3, 5)", 2).due("unlink(3, 5)", 0).due("unlink(1, 1)", 0)
                .due("about(1, 2)", 0).due("count(4)", 1));
        says("4", "without LINKS the object goes: its data blocks, from the last one on, its TAIL, POINTERS, STAT",
                () -> {
            withBoth().does("fill(2, 0, 1, 296)").due("count(0)", 6).due("count(4)", 7).due("unlink(1, 0)", 0)
                    .due("count(0)", 2).due("count(4)", 3).due("count(3)", 2).refused("about(2, 0)", INDEX)
                    .refused("read(2, 0)", INDEX).due("make(1, 9, false)", 2).due("fill(2, 0, 1, 128)", 128)
                    .due("about(2, 5)", 2);
            withBoth().does("fill(2, 0, 1, 512)", "fill(2, 512, 1, 512)", "fill(2, 1024, 1, 512)",
                    "fill(2, 1536, 1, 512)")
                    .due("count(0)", 18).due("unlink(1, 0)", 0).due("count(0)", 2).due("count(5)", 14 + 11 + 14);
            withBoth().does("write(2, 0, 0, 1)").due("count(5)", 73).due("unlink(1, 0)", 0).due("count(5)", 39);
        });
        says("4", "IndexOutOfBoundsException: dir is no directory", () -> noDirectory(withBoth(), "unlink(", ", 0)"));
        says("4", "or has no such name", () -> {
            Run r = withBoth().does("make(3, 7, true)", "make(4, 7, false)", "unlink(4, 7)", "unlink(3, 7)");
            for (String name : new String[] {"2", "-1", "999", "1000", "least", "greatest", "-8000", "8000"}) {
                r.refused("unlink(1, " + name + ")", INDEX).refused("unlink(3, " + name + ")", INDEX);
            }
            r.does("make(3, 999, false)", "make(1, 999, false)").due("unlink(1, 0)", 0).refused("unlink(1, 0)", INDEX)
                    .due("unlink(1, 999)", 0).refused("unlink(1, 999)", INDEX).due("unlink(3, 999)", 0);
        });
        says("4", "IllegalStateException: it tells a directory that has entries", () -> withBoth()
                .does("make(3, 0, false)", "link(3, 1, 4)").refused("unlink(1, 1)", STATE).does("unlink(3, 0)")
                .refused("unlink(1, 1)", STATE).does("unlink(3, 1)").due("unlink(1, 1)", 0).does("make(1, 1, true)",
                        "make(3, 0, true)").refused("unlink(1, 1)", STATE).due("unlink(3, 0)", 0)
                        .due("unlink(1, 1)", 0));
    }

    private void move() {
        says("5", "An entry becomes one of a directory (the same, or another one) under a name: its object",
                () -> withBoth().due("move(1, 0, 1, 5)", 2).due("look(1, 0)", -1).due("look(1, 5)", 2)
                        .due("about(1, 2)", 2).due("move(1, 5, 3, 5)", 2).due("about(1, 2)", 1).due("about(3, 2)", 1)
                        .due("look(3, 5)", 2).due("about(2, 1)", 1).does("make(3, 0, true)").due("move(3, 0, 1, 0)", 4)
                        .due("about(3, 2)", 1).due("move(1, 1, 4, 0)", 3).due("name(1, 0)", 0).due("about(1, 2)", 1));
        says("5", "IndexOutOfBoundsException: dir or to is no directory", () -> {
            noDirectory(withBoth(), "move(", ", 0, 1, 5)");
            noDirectory(withBoth(), "move(1, 0, ", ", 5)");
        });
        says("5", "dir has no such name", () -> {
            Run r = withBoth().does("make(3, 7, false)");
            for (String name : new String[] {"2", "7", "-1", "999", "1000", "least", "greatest", "8007"}) {
                r.refused("move(1, " + name + ", 3, 5)", INDEX);
            }
            r.refused("move(3, 0, 1, 5)", INDEX).refused("move(3, -8000, 1, 5)", INDEX).due("move(3, 7, 1, 5)", 4)
                    .refused("move(3, 7, 1, 6)", INDEX);
        });
        says("5", "IllegalArgumentException: as is not 0 .. 999", () -> {
            Run r = withBoth();
            for (String as : new String[] {"-1", "1000", "least", "greatest", "8000"}) {
                r.refused("move(1, 0, 1, " + as + ")", ARGUMENT).refused("move(1, 0, 3, " + as + ")", ARGUMENT);
            }
            r.due("move(1, 0, 3, 999)", 2).due("move(3, 999, 3, 0)", 2).due("move(3, 0, 1, 0)", 2);
        });
        says("5", "IllegalStateException: to has that name (also if it is the entry itself)", () -> withBoth()
                .does("make(3, 5, false)")
                .refused("move(1, 0, 1, 0)", STATE).refused("move(1, 0, 1, 1)", STATE)
                .refused("move(1, 1, 1, 0)", STATE)
                .refused("move(1, 0, 3, 5)", STATE).refused("move(3, 5, 1, 0)", STATE)
                .refused("move(3, 5, 3, 5)", STATE)
                .does("link(1, 5, 2)").refused("move(1, 0, 1, 5)", STATE).due("move(1, 0, 3, 6)", 2)
                .due("move(3, 5, 1, 0)", 4).due("move(3, 6, 3, 5)", 2));
        says("5", "or the entry tells a directory that is to, or that to is in", () -> {
            Run r = on(96, 64).does("make(1, 0, true)", "make(2, 0, true)", "make(3, 0, true)", "make(4, 0, true)",
                    "make(4, 1, false)");
            for (int to = 2; to <= 5; to++) {
                r.refused("move(1, 0, " + to + ", 7)", STATE);
            }
            r.due("move(4, 1, 5, 0)", 6).due("move(5, 0, 2, 1)", 6);
            r.refused("move(2, 0, 3, 7)", STATE).refused("move(2, 0, 5, 7)", STATE).due("move(2, 0, 2, 7)", 3);
            r.due("move(3, 0, 1, 1)", 4).due("move(1, 0, 5, 1)", 2).refused("move(1, 1, 3, 1)", STATE)
                    .refused("move(1, 1, 2, 7)", STATE).due("move(5, 1, 1, 0)", 2).due("move(1, 1, 3, 1)", 4);
        });
        says("5", "that to is in (directly or through others)", () -> {
            Run r = on(96, 64);
            for (int k = 2; k <= 60; k++) {
                r.does("make(" + (k - 1) + ", 0, true)");
            }
            r.refused("move(1, 0, 60, 5)", STATE).refused("move(2, 0, 60, 5)", STATE)
                    .refused("move(59, 0, 60, 5)", STATE)
                    .due("move(59, 0, 1, 5)", 60).due("move(1, 0, 60, 5)", 2).refused("move(1, 5, 59, 5)", STATE);
        });
        says("5", "or no room", () -> {
            full().does("link(1, 10, 2)", "link(1, 11, 2)", "link(1, 12, 2)", "link(1, 13, 2)").due("count(5)", 119)
                    .due("move(1, 13, 1, 5)", 2).due("move(1, 0, 1, 999)", 2).due("count(5)", 119).due("count(0)", 16);
            Run r = on(16, 64).does("make(1, 0, false)", "make(1, 1, true)");
            for (int k = 0; k < 10; k++) {
                r.does("link(3, " + k + ", 2)");
            }
            r.does("fill(2, 0, 1, 512)", "fill(2, 512, 1, 512)", "fill(2, 1024, 1, 512)", "link(1, 10, 2)",
                    "link(1, 11, 2)");
            r.due("count(0)", 16).due("node(0, 0, 2)", 118).due("node(0, 1, 2)", 110);
            r.due("move(3, 0, 1, 5)", 2).due("node(0, 0, 2)", 115).due("node(0, 1, 2)", 113);
            r.refused("move(3, 5, 1, 6)", STATE).refused("move(3, 9, 1, 6)", STATE).due("move(3, 9, 3, 20)", 2)
                    .due("move(1, 0, 3, 0)", 2);
        });
    }

    private void write() {
        says("6", "The lowest n bytes of w, the lowest first, are put into a file from byte at on", () -> {
            Run r = withFile().due("write(2, 0, " + 0x8877665544332211L + ", 8)", 8);
            for (int k = 0; k < 8; k++) {
                r.due("read(2, " + k + ")", 0x11 * (k + 1));
            }
            r.due("write(2, 2, -1, 1)", 8).due("read(2, 1)", 0x22).due("read(2, 2)", 255).due("read(2, 3)", 0x44)
                    .due("write(2, 7, " + 0x1234567890abL + ", 2)", 9).due("read(2, 6)", 0x77).due("read(2, 7)", 0xab)
                    .due("read(2, 8)", 0x90).refused("read(2, 9)", INDEX)
                    .due("write(2, 0, " + Long.MIN_VALUE + ", 8)", 9)
                    .due("read(2, 6)", 0).due("read(2, 7)", 128).due("read(2, 8)", 0x90);
        });
        says("6", "are put into a file from byte at on", () -> {
            Run r = withFile().does("make(1, 1, false)", "fill(2, 0, 1, 168)", "fill(3, 0, 100, 300)")
                    .due("write(2, 5, 0, 2)", 168);
            r.due("read(2, 4)", 29).due("read(2, 5)", 0).due("read(2, 7)", 50).due("read(2, 127)", 1 + 7 * 127 & 255)
                    .due("read(2, 128)", 1 + 7 * 128 & 255).due("read(2, 167)", 1 + 7 * 167 & 255)
                    .due("fill(3, 298, 0, 3)", 301)
                    .due("read(3, 0)", 100).due("read(3, 297)", 100 + 7 * 297 & 255).due("read(3, 300)", 14)
                    .due("cut(2, 160)", 1)
                    .due("read(2, 7)", 50).due("read(2, 159)", 1 + 7 * 159 & 255).due("fill(3, 0, 0, 1)", 301)
                    .due("fill(2, 0, 9, 1)", 160)
                    .due("read(2, 0)", 9).due("read(2, 1)", 8).due("read(2, 159)", 1 + 7 * 159 & 255)
                    .due("read(3, 1)", 107);
        });
        says("6", "it grows if it must: its SIZE", () -> withFile().due("write(2, 0, 0, 1)", 1)
                .due("write(2, 0, 0, 1)", 1)
                .due("write(2, 1, 0, 8)", 9).due("write(2, 1, 0, 8)", 9).due("write(2, 2, 0, 8)", 10)
                .does("fill(2, 10, 1, 117)").due("write(2, 120, -1, 8)", 128).due("write(2, 124, -1, 8)", 132)
                .due("about(2, 3)", 1).due("about(2, 4)", 4).due("read(2, 127)", 255).due("read(2, 128)", 255));
        says("6", "IndexOutOfBoundsException: object is no file", () -> noFile(withBoth(), "write(", ", 0, 0, 1)"));
        says("6", "or at is not 0 .. its SIZE", () -> withFile().refused("write(2, 1, 0, 1)", INDEX)
                .refused("write(2, -1, 0, 1)", INDEX).due("write(2, 0, 0, 3)", 3).refused("write(2, 4, 0, 1)", INDEX)
                .refused("write(2, greatest, 0, 8)", INDEX).refused("write(2, least, 0, 8)", INDEX)
                .refused("write(2, -1, 0, 8)", INDEX).due("write(2, 3, 0, 1)", 4));
        says("6", "IllegalArgumentException: n is not 1 .. 8", () -> {
            Run r = withFile().does("fill(2, 0, 1, 512)", "fill(2, 512, 1, 512)", "fill(2, 1024, 1, 512)");
            for (String n : new String[] {"0", "9", "-1", "least", "greatest", "512"}) {
                r.refused("write(2, 0, 0, " + n + ")", ARGUMENT);
            }
            r.due("write(2, 0, 0, 1)", 1536).due("write(2, 0, 0, 8)", 1536).refused("write(2, 1536, 0, 0)", ARGUMENT);
        });
        says("6", "or the SIZE would be above 2048", () -> {
            Run r = withFile().does("fill(2, 0, 1, 512)", "fill(2, 512, 1, 512)", "fill(2, 1024, 1, 512)");
            r.due("fill(2, 1536, 1, 505)", 2041).refused("write(2, 2041, 0, 8)", ARGUMENT)
                    .refused("write(2, 2041, 0, greatest)", ARGUMENT)
                    .due("write(2, 2041, 0, 7)", 2048).refused("write(2, 2048, 0, 1)", ARGUMENT)
                    .refused("write(2, 2041, 0, 8)", ARGUMENT).due("write(2, 2040, 0, 8)", 2048)
                    .due("write(2, 2047, 5, 1)", 2048)
                    .due("read(2, 2047)", 5);
        });
        says("6", "IllegalStateException: no room", () -> full()
                .refused("write(2, 1792, 0, 1)", STATE).refused("write(2, 1785, 0, 8)", STATE)
                .due("write(2, 1784, 0, 8)", 1792)
                .does("cut(2, 1664)").due("write(2, 1664, 3, 1)", 1665).due("count(0)", 16)
                .due("write(2, 1665, 0, 8)", 1673));
    }

    private void fill() {
        says("7", "Likewise n bytes (1 .. 512)", () -> {
            Run r = withBoth();
            for (String n : new String[] {"0", "513", "-1", "least", "greatest"}) {
                r.refused("fill(2, 0, 0, " + n + ")", ARGUMENT);
            }
            r.due("fill(2, 0, 1, 1)", 1).due("fill(2, 0, 1, 512)", 512).refused("fill(2, 1, 1, 513)", ARGUMENT)
                    .refused("fill(2, 513, 1, 1)", INDEX).refused("fill(2, -1, 1, 1)", INDEX)
                    .refused("fill(2, greatest, 1, 512)", INDEX).refused("fill(2, least, 1, 512)", INDEX)
                    .due("fill(2, 512, 1, 512)", 1024).due("fill(2, 1024, 1, 512)", 1536)
                    .due("fill(2, 1536, 1, 1)", 1537).refused("fill(2, 1537, 1, 512)", ARGUMENT)
                    .due("fill(2, 1537, 1, 511)", 2048).refused("fill(2, 2048, 1, 1)", ARGUMENT)
                    .due("fill(2, 1536, 1, 512)", 2048);
            noFile(withBoth(), "fill(", ", 0, 0, 1)");
            full().refused("fill(2, 1792, 1, 1)", STATE).refused("fill(2, 1300, 1, 493)", STATE)
                    .due("fill(2, 1300, 1, 492)", 1792)
                    .due("read(2, 1300)", 1);
        });
        says("7", "byte k (0 the first) is the lowest eight bits of seed + 7 * k", () -> {
            for (int seed : new int[] {0, 1, 255, 256, -1, -7, Integer.MAX_VALUE, Integer.MIN_VALUE}) {
                Run r = withFile().does("fill(2, 0, 99, 5)").due("fill(2, 3, " + seed + ", 512)", 515);
                for (int k : new int[] {0, 1, 2, 36, 37, 124, 125, 252, 508, 511}) {
                    r.due("read(2, " + (3 + k) + ")", seed + 7 * k & 255);
                }
                r.due("read(2, 2)", 99 + 14).refused("read(2, 515)", INDEX);
            }
        });
        says("Terms (6, 7, 8, 12)", "A file of SIZE s has s / 128 data blocks (cut off) for its first bytes",
                () -> withFile()
                .does("fill(2, 0, 1, 40)").due("about(2, 3)", 0).does("fill(2, 40, 1, 88)").due("about(2, 3)", 1)
                .due("about(2, 4)", 0)
                .does("fill(2, 128, 1, 40)").due("about(2, 3)", 1).due("read(2, 127)", 1 + 7 * 87 & 255)
                .due("read(2, 128)", 1)
                .does("fill(2, 168, 1, 88)").due("about(2, 3)", 2).due("about(2, 4)", 0)
                .due("read(2, 255)", 1 + 7 * 87 & 255));
        says("Terms (6, 7, 8, 12)",
                "The s % 128 that are left are its TAIL if they are 40 at most and s is 512 at most; "
                + "otherwise (if there are any) one data block more.", () -> {
            int[][] rows = {{1, 0, 1}, {39, 0, 39}, {40, 0, 40}, {41, 1, 0}, {127, 1, 0}, {128, 1, 0}, {129, 1, 1},
                {168, 1, 40}, {169, 2, 0}, {255, 2, 0}, {256, 2, 0}, {257, 2, 1}, {296, 2, 40}, {297, 3, 0}, {384, 3,
                        0},
                {385, 3, 1}, {424, 3, 40}, {425, 4, 0}, {511, 4, 0}, {512, 4, 0}, {513, 5, 0}, {552, 5, 0}, {553, 5, 0},
                {640, 5, 0}, {641, 6, 0}, {680, 6, 0}, {1024, 8, 0}, {1025, 9, 0}, {1920, 15, 0}, {1921, 16, 0}, {2047,
                        16, 0},
                {2048, 16, 0}};
            Run up = withFile().due("about(2, 3)", 0).due("about(2, 4)", 0).due("count(4)", 3);
            int size = 0;
            for (int[] row : rows) {
                up.does("fill(2, " + size + ", 1, " + Math.min(512, row[0] - size) + ")");
                size += Math.min(512, row[0] - size);
                while (size < row[0]) {
                    up.does("fill(2, " + size + ", 1, " + Math.min(512, row[0] - size) + ")");
                    size += Math.min(512, row[0] - size);
                }
                hasShape(up, row[1], row[2]);
            }
            for (int k = rows.length - 1; k >= 0; k--) {
                up.due("cut(2, " + rows[k][0] + ")", rows[k][1]);
                hasShape(up, rows[k][1], rows[k][2]);
            }
            hasShape(up.due("cut(2, 0)", 0), 0, 0);
        });
    }

    /** The data blocks and the bytes of the TAIL of file 2, and its items: those without bytes are not there. */
    private void hasShape(Run r, int data, int tail) {
        r.due("about(2, 3)", data).due("about(2, 4)", tail).due("count(0)", 2 + data)
                .due("count(4)", 3 + (data > 0 ? 1 : 0) + (tail > 0 ? 1 : 0))
                .due("count(5)", 39 + (data > 0 ? 8 + 2 * data : 0) + (tail > 0 ? 8 + tail : 0));
    }

    private void cut() {
        says("8", "A file keeps its first bytes alone: how many data blocks it has then", () -> {
            Run r = withFile().does("fill(2, 0, 1, 300)").due("cut(2, 300)", 3).due("cut(2, 299)", 3)
                    .refused("read(2, 299)", INDEX)
                    .due("read(2, 298)", 1 + 7 * 298 & 255).due("cut(2, 296)", 2).due("read(2, 295)", 1 + 7 * 295 & 255)
                    .refused("read(2, 296)", INDEX).due("cut(2, 128)", 1).due("read(2, 127)", 1 + 7 * 127 & 255)
                    .refused("read(2, 128)", INDEX).due("cut(2, 1)", 0).due("read(2, 0)", 1).due("cut(2, 0)", 0)
                    .refused("read(2, 0)", INDEX).due("cut(2, 0)", 0).due("about(2, 2)", 0).due("about(2, 1)", 1);
            r.due("fill(2, 0, 9, 4)", 4).due("read(2, 3)", 9 + 21);
        });
        says("8", "IndexOutOfBoundsException: object is no file", () -> noFile(withBoth(), "cut(", ", 0)"));
        says("8", "IllegalArgumentException: size is not 0 .. its SIZE", () -> withFile().refused("cut(2, 1)", ARGUMENT)
                .refused("cut(2, -1)", ARGUMENT).due("cut(2, 0)", 0).does("fill(2, 0, 1, 41)")
                .refused("cut(2, 42)", ARGUMENT)
                .refused("cut(2, -1)", ARGUMENT).refused("cut(2, least)", ARGUMENT)
                .refused("cut(2, greatest)", ARGUMENT)
                .due("cut(2, 41)", 1).due("cut(2, 40)", 0).refused("cut(2, 41)", ARGUMENT));
        says("8", "IllegalStateException: no room", () -> {
            Run r = on(16, 64).does("make(1, 0, false)", "make(1, 1, false)", "fill(3, 0, 1, 60)", "fill(2, 0, 1, 512)",
                    "fill(2, 512, 1, 512)", "fill(2, 1024, 1, 512)", "fill(2, 1536, 1, 128)", "link(1, 2, 2)");
            r.due("count(0)", 16).due("count(5)", 119);
            r.refused("cut(3, 40)", STATE).refused("cut(3, 4)", STATE).due("cut(3, 41)", 1).due("cut(3, 3)", 0)
                    .due("count(5)", 120).due("count(0)", 15);
        });
    }

    private void read() {
        says("9", "Byte k of a file, 0 .. 255", () -> withFile().does("write(2, 0, " + 0xff807f0100L + ", 5)")
                .due("read(2, 0)", 0)
                .due("read(2, 1)", 1).due("read(2, 2)", 127).due("read(2, 3)", 128).due("read(2, 4)", 255)
                .does("fill(2, 5, 0, 300)", "write(2, 304, 255, 1)").due("read(2, 304)", 255).due("read(2, 4)", 255)
                .does("cut(2, 296)").due("read(2, 4)", 255).due("read(2, 295)", 7 * 290 & 255));
        says("9", "IndexOutOfBoundsException: object is no file", () ->
                noFile(withBoth().does("write(2, 0, 0, 1)"), "read(", ", 0)"));
        says("9", "there is no such byte", () -> {
            withFile().refused("read(2, 0)", INDEX).does("fill(2, 0, 1, 40)").due("read(2, 0)", 1)
                    .due("read(2, 39)", 1 + 7 * 39 & 255)
                    .refused("read(2, 40)", INDEX).refused("read(2, -1)", INDEX).refused("read(2, greatest)", INDEX)
                    .refused("read(2, least)", INDEX).does("fill(2, 40, 1, 87)").due("read(2, 126)", 1 + 7 * 86 & 255)
                    .refused("read(2, 127)", INDEX).does("write(2, 127, 9, 1)").due("read(2, 127)", 9)
                    .refused("read(2, 128)", INDEX).does("cut(2, 127)").refused("read(2, 127)", INDEX);
        });
    }

    private void look() {
        says("10", "The object that a name of a directory tells; NONE", () -> {
            Run r = withBoth().does("make(3, 999, false)", "make(3, 0, true)", "make(5, 7, false)");
            r.due("look(1, 0)", 2).due("look(1, 1)", 3).due("look(3, 999)", 4).due("look(3, 0)", 5)
                    .due("look(5, 7)", 6);
            for (String name : new String[] {"2", "998", "999", "-1", "1000", "8000", "least", "greatest"}) {
                r.due("look(1, " + name + ")", -1);
            }
            r.due("look(3, 1000)", -1).due("look(3, 1)", -1).due("look(3, -1)", -1).due("look(5, 0)", -1)
                    .due("look(3, -7999)", -1)
                    .does("unlink(3, 999)").due("look(3, 999)", -1);
        });
        says("10", "IndexOutOfBoundsException: dir is no directory", () -> noDirectory(withBoth(), "look(", ", 0)"));
    }

    private void name() {
        says("11", "The k-th name (from 0) of a directory, the least first", () -> {
            Run r = withBoth();
            for (int k = 29; k >= 0; k--) {
                r.does("link(3, " + (k == 29 ? 999 : 7 * k) + ", 2)");
            }
            for (int k = 0; k < 30; k++) {
                r.due("name(3, " + k + ")", k == 29 ? 999 : 7 * k);
            }
            r.due("name(1, 0)", 0).due("name(1, 1)", 1);
        });
        says("11", "IndexOutOfBoundsException: dir is no directory", () ->
                noDirectory(withBoth().does("make(3, 0, false)"), "name(", ", 0)"));
        says("11", "or has not so many", () -> {
            withBoth().refused("name(3, 0)", INDEX).refused("name(1, 2)", INDEX).refused("name(1, -1)", INDEX)
                    .refused("name(1, greatest)", INDEX).refused("name(1, least)", INDEX).does("make(3, 5, false)")
                    .due("name(3, 0)", 5).refused("name(3, 1)", INDEX).does("unlink(3, 5)")
                    .refused("name(3, 0)", INDEX);
        });
    }

    private void about() {
        says("12", "what = 0 its kind (0 a directory, 1 a file), 1 LINKS, 2 SIZE (entries of a directory), 3 data blocks, "
                + "4 bytes of its TAIL", () -> withBoth().does("fill(2, 0, 1, 296)", "link(3, 5, 2)", "link(3, 6, 2)")
                .due("about(1, 0)", 0).due("about(1, 1)", 1).due("about(1, 2)", 2).due("about(1, 3)", 0)
                .due("about(1, 4)", 0)
                .due("about(2, 0)", 1).due("about(2, 1)", 3).due("about(2, 2)", 296).due("about(2, 3)", 2)
                .due("about(2, 4)", 40)
                .due("about(3, 0)", 0).due("about(3, 1)", 1).due("about(3, 2)", 2).due("about(3, 3)", 0)
                .due("about(3, 4)", 0)
                .does("fill(2, 0, 1, 297)").due("about(2, 3)", 3).due("about(2, 4)", 0));
        says("12", "5 and on the block of its data block what - 5", () -> {
            Run r = withFile().does("fill(2, 0, 1, 512)", "fill(2, 512, 1, 512)", "fill(2, 1024, 1, 512)",
                    "fill(2, 1536, 1, 511)");
            for (int k = 0; k < 16; k++) {
                r.due("about(2, " + (5 + k) + ")", 2 + k);
            }
            r.refused("about(2, 21)", INDEX).does("cut(2, 1920)").due("about(2, 19)", 16).refused("about(2, 20)", INDEX)
                    .does("cut(2, 30)").refused("about(2, 5)", INDEX).due("about(2, 4)", 30).does("make(1, 1, false)",
                            "fill(3, 0, 1, 300)", "fill(2, 30, 1, 11)").due("about(3, 7)", 4).due("about(2, 5)", 5);
        });
        says("12", "IndexOutOfBoundsException: no such object", () -> {
            Run r = withBoth().does("make(1, 9, true)", "unlink(1, 9)");
            for (String object : new String[] {"0", "-1", "4", "60", "61", "257", "65537", "134217729", "least",
                    "greatest"}) {
                r.refused("about(" + object + ", 0)", INDEX);
            }
            r.due("about(1, 0)", 0).due("about(3, 0)", 0);
        });
        says("12", "or no such data block", () -> withBoth().refused("about(2, 5)", INDEX).does("fill(2, 0, 1, 296)")
                .due("about(2, 6)", 3).refused("about(2, 7)", INDEX).refused("about(2, greatest)", INDEX)
                .refused("about(1, 5)", INDEX).refused("about(3, 5)", INDEX).refused("about(1, greatest)", INDEX));
        says("12", "IllegalArgumentException: what is below 0", () -> withBoth().does("fill(2, 0, 1, 296)")
                .refused("about(2, -1)", ARGUMENT).refused("about(1, -1)", ARGUMENT)
                .refused("about(2, least)", ARGUMENT)
                .due("about(2, 0)", 1).due("about(1, 0)", 0));
    }

    private void node() {
        says("13", "2 USED (of an inner node: 0), 3 its parent's block (NONE of the root node)",
                () -> tenLinks(withFile())
                .due("node(0, 0, 0)", 1).due("node(0, 0, 1)", 10).due("node(0, 0, 2)", 113).due("node(0, 0, 3)", 3)
                .due("node(0, 1, 0)", 2).due("node(0, 1, 1)", 3).due("node(0, 1, 2)", 36).due("node(0, 1, 3)", 3)
                .due("node(1, 0, 0)", 3).due("node(1, 0, 1)", 2).due("node(1, 0, 2)", 0).due("node(1, 0, 3)", -1));
        says("13", "IndexOutOfBoundsException: there is no such node", () -> {
            Run r = tenLinks(withFile());
            for (String node : new String[] {"0, 2", "0, -1", "0, greatest", "0, least", "1, 1", "1, -1", "2, 0",
                    "-1, 0",
                "greatest, 0", "least, 0"}) {
                r.refused("node(" + node + ", 0)", INDEX);
            }
            on(16, 6).due("node(0, 0, 3)", -1).refused("node(1, 0, 0)", INDEX).refused("node(0, 1, 0)", INDEX);
        });
        says("13", "IllegalArgumentException: another what", () -> {
            Run r = tenLinks(withFile());
            for (String what : new String[] {"-1", "4", "least", "greatest"}) {
                r.refused("node(0, 1, " + what + ")", ARGUMENT).refused("node(1, 0, " + what + ")", ARGUMENT);
            }
            r.due("node(0, 1, 0)", 2).due("node(0, 1, 3)", 3);
        });
    }

    /** Two leaves and a root node: STAT and nine entries, two entries and the file's STAT. */
    private Run tenLinks(Run r) {
        for (int k = 1; k <= 10; k++) {
            r.does("link(1, " + k + ", 2)");
        }
        return r;
    }

    private void item() {
        says("14", "Of the k-th item (from 0) of the tree", () -> {
            Run r = withBoth().does("make(3, 999, false)", "make(3, 0, false)", "fill(2, 0, 1, 168)",
                    "fill(4, 0, 1, 1)",
                    "fill(5, 0, 1, 300)");
            int[][] items = {{1, 0, 0, 6, 1}, {1, 1, 0, 3, 1}, {1, 1, 1, 3, 1}, {2, 0, 0, 6, 1}, {2, 2, 0, 2, 1},
                {2, 3, 0, 40, 1}, {3, 0, 0, 6, 3}, {3, 1, 0, 3, 3}, {3, 1, 999, 3, 3}, {4, 0, 0, 6, 3}, {4, 3, 0, 1, 3},
                {5, 0, 0, 6, 3}, {5, 2, 0, 6, 3}};
            for (int k = 0; k < items.length; k++) {
                for (int what = 0; what <= 4; what++) {
                    r.due("item(" + k + ", " + what + ")", items[k][what]);
                }
            }
            r.refused("item(" + items.length + ", 0)", INDEX);
        });
        says("14", "IndexOutOfBoundsException: there is no such item", () -> {
            Run r = tenLinks(withFile()).due("count(4)", 13).due("item(12, 0)", 2).due("item(12, 1)", 0);
            for (String k : new String[] {"13", "-1", "greatest", "least"}) {
                r.refused("item(" + k + ", 0)", INDEX);
            }
        });
        says("14", "IllegalArgumentException: another what", () -> {
            Run r = tenLinks(withFile());
            for (String what : new String[] {"-1", "5", "least", "greatest"}) {
                r.refused("item(0, " + what + ")", ARGUMENT).refused("item(12, " + what + ")", ARGUMENT);
            }
            r.due("item(12, 0)", 2).due("item(12, 4)", 2);
        });
    }

    private void count() {
        says("21", "2 heights (1 with one leaf alone)", () -> on(96, 64).due("count(2)", 1).does("make(1, 0, false)")
                .due("count(2)", 1).does("link(1, 1, 2)", "link(1, 2, 2)", "link(1, 3, 2)", "link(1, 4, 2)",
                "link(1, 5, 2)",
                        "link(1, 6, 2)", "link(1, 7, 2)").due("count(1)", 1).due("count(2)", 1).does("link(1, 8, 2)")
                .due("count(1)", 2).due("count(2)", 2).due("count(0)", 4).due("count(5)", 127).due("count(4)", 11));
        says("21", "0 blocks in use, 1 leaves", () -> on(96, 64).due("count(0)", 2)
                .does("make(1, 0, false)", "fill(2, 0, 1, 40)")
                .due("count(0)", 2).does("write(2, 40, 0, 1)").due("count(0)", 3).does("cut(2, 40)").due("count(0)", 2)
                .due("count(1)", 1));
        says("21", "3 objects, 4 items, 5 USED of all leaves", () -> {
            Run r = on(96, 64);
            sixty(r);
            r.due("count(3)", 60).due("count(4)", 60 + 59).due("count(5)", 60 * 14 + 59 * 11).does("link(1, 1, 2)")
                    .due("count(3)", 60).due("count(4)", 120).does("unlink(1, 60)").due("count(3)", 59)
                    .due("count(4)", 118);
        });
        says("21", "8 writes that were ever done, 9 COMMITS that were ever done", () -> withFile()
                .does("commit()", "commit()")
                .due("count(8)", 3).due("count(9)", 1).does("checkpoint()", "checkpoint()").due("count(8)", 5)
                .due("count(9)", 1).does("make(1, 1, true)", "back()").due("count(8)", 5)
                .does("make(1, 1, true)", "fail(2)")
                .due("commit()", 2).does("recover()").due("count(8)", 7).due("count(9)", 1));
        says("21", "IllegalArgumentException: another what", () -> {
            Run r = withFile().due("count(0)", 2).due("count(9)", 0);
            for (String what : new String[] {"-1", "10", "least", "greatest"}) {
                r.refused("count(" + what + ")", ARGUMENT);
            }
        });
    }

    /** The power is OFF, and what is asked is all wrong besides. */
    private void without() {
        says("Terms (2 .. 17, 21)",
                "UnsupportedOperationException: the power is OFF (first, in all calls but fail(), recover(), "
                + "off())", () -> {
            Run r = withBoth().does("fill(2, 0, 1, 200)", "commit()", "make(3, 5, false)", "fail(1)", "commit()");
            r.due("off()", 1);
            for (String call : new String[] {"make(1, 9, true)", "make(0, -1, false)", "link(1, 9, 2)",
                    "link(0, -1, 0)",
                "unlink(1, 0)", "unlink(0, -1)", "unlink(1, 1)", "move(1, 0, 1, 9)", "move(0, -1, 0, -1)",
                "write(2, 0, 9, 1)",
                "write(0, -1, 0, 0)", "fill(2, 0, 9, 1)", "fill(0, -1, 0, 0)", "cut(2, 0)", "cut(0, -1)", "read(2, 0)",
                "read(0, -1)", "look(1, 0)", "look(0, -1)", "name(1, 0)", "name(0, -1)", "about(1, 0)", "about(0, -1)",
                "node(0, 0, 0)", "node(-1, -1, -1)", "item(0, 0)", "item(-1, -1)", "commit()", "checkpoint()", "back()",
                "count(0)", "count(8)", "count(-1)", "count(10)"}) {
                r.refused(call, OFF);
            }
            r.refused("fail(-2)", ARGUMENT).due("fail(NONE)", 0).due("off()", 1).due("recover()", 5).due("off()", 0)
                    .due("look(3, 5)", -1).due("read(2, 0)", 1);
        });
    }

    private void orderOfExceptions() {
        says("Terms (2 .. 14)",
                "A call that throws changes nothing; of several exceptions that fit the one named first is thrown",
                () -> {
                    withBoth().does("make(3, 0, true)").refused("make(0, -1, true)", INDEX)
                            .refused("make(2, 1000, true)", INDEX)
                            .refused("link(0, -1, 2)", INDEX).refused("link(1, 1000, 3)", INDEX)
                            .refused("link(1, 0, 3)", INDEX)
                            .refused("link(2, 0, 2)", INDEX).refused("move(0, 0, 1, -1)", INDEX)
                            .refused("move(1, 0, 0, -1)", INDEX)
                            .refused("move(1, 5, 1, -1)", INDEX).refused("move(1, 5, 1, 0)", INDEX)
                            .refused("move(1, 1, 2, 1000)", INDEX).refused("move(1, 1, 3, 1000)", ARGUMENT)
                            .refused("move(1, 1, 4, -1)", ARGUMENT).refused("move(1, 1, 3, 0)", STATE)
                            .refused("write(3, 0, 0, 0)", INDEX).refused("write(2, 1, 0, 0)", INDEX)
                            .refused("write(2, -1, 0, 9)", INDEX)
                            .refused("write(2, 2048, 0, 8)", INDEX).refused("fill(3, 0, 0, 0)", INDEX)
                            .refused("fill(2, 1, 0, 513)", INDEX)
                            .refused("cut(3, -1)", INDEX).refused("cut(1, 1)", INDEX).refused("about(0, -1)", INDEX)
                            .refused("about(61, -1)", INDEX).refused("node(1, 0, 4)", INDEX)
                            .refused("node(0, 1, -1)", INDEX)
                            .refused("item(9, -1)", INDEX).refused("item(-1, 5)", INDEX);
                    Run sixty = on(96, 64);
                    sixty(sixty);
                    sixty.refused("make(0, 5, true)", INDEX).refused("make(1, 1000, true)", ARGUMENT)
                            .refused("make(1, -1, true)", ARGUMENT);
                    full().does("link(1, 10, 2)", "link(1, 11, 2)", "link(1, 12, 2)", "link(1, 13, 2)")
                            .refused("make(2, 5, true)", INDEX)
                            .refused("make(1, 1000, true)", ARGUMENT).refused("link(1, 1000, 2)", ARGUMENT)
                            .refused("link(1, 5, 3)", INDEX)
                            .refused("link(1, 5, 2)", STATE).refused("fill(2, 1792, 1, 257)", ARGUMENT)
                            .refused("fill(2, 1792, 1, 256)", STATE)
                            .refused("fill(2, 1793, 1, 1)", INDEX).refused("write(2, 1792, 1, 9)", ARGUMENT)
                            .refused("write(2, 1792, 1, 0)", ARGUMENT).refused("write(2, 1793, 1, 1)", INDEX);
                });
    }
}

import java.io.IOException;

/** Promises 15 to 20 and what they rest on: what is in a block, COMMIT, CHECKPOINT, POWER. */
public final class BoundsOfPowerTest extends Bounds {
    public static void main(String[] args) throws IOException {
        new BoundsOfPowerTest().begin(args);
    }

    @Override
    void all() {
        blockZero();
        leaves();
        innerNodes();
        data();
        changed();
        roomOfTheJournal();
        writesOfACommit();
        checkpoint();
        failing();
        recovered();
        commitCall();
        checkpointCall();
        backCall();
        failCall();
        offCall();
        recoverCall();
        countCall();
    }

    /** A file 2, committed, the journal empty: 3 + 2 writes, one commit. */
    private Run withFile(int journal) {
        return on(96, journal).does("make(1, 0, false)", "commit()", "checkpoint()");
    }

    /** A file 2 and a directory 3, committed, the journal empty. */
    private Run withBoth(int journal) {
        return on(96, journal).does("make(1, 0, false)", "make(1, 1, true)", "commit()", "checkpoint()");
    }

    /** File 2 under names 0, 10, 20 .. of the root directory, committed, the journal empty. */
    private Run named(int last) {
        Run r = on(96, 64).does("make(1, 0, false)");
        for (int name = 10; name <= last; name += 10) {
            r.does("link(1, " + name + ", 2)");
        }
        return r.does("commit()", "checkpoint()").due("count(6)", 0);
    }

    private void blockZero() {
        says("Terms (15)", "Block 0 tells the root's block and which blocks are in use", () -> {
            withFile(64).does("make(1, 1, true)").due("count(6)", 1).does("fill(2, 0, 1, 41)").due("count(6)", 3);
            withFile(64).does("fill(2, 0, 1, 41)", "commit()").does("cut(2, 40)").due("count(6)", 2);
            Run r = withFile(64).does("fill(2, 0, 1, 256)", "commit()", "cut(2, 0)");
            for (int name = 1; name <= 8; name++) {
                r.does("link(1, " + name + ", 2)");
            }
            r.row(0, "1:10:113 2:1:14").row(1, "3:2").due("count(0)", 4).due("count(6)", 4);
        });
    }

    private void leaves() {
        says("Terms (15)", "a leaf: its items, keys and bodies, in order", () -> {
            withFile(64).does("move(1, 0, 1, 1)").due("count(6)", 1).does("move(1, 1, 1, 0)").due("count(6)", 0);
            named(390).does("link(1, 395, 2)", "unlink(1, 395)").due("count(6)", 0).does("unlink(1, 180)")
                    .due("count(6)", 3)
                    .does("commit()", "link(1, 180, 2)").due("count(6)", 3);
            withFile(64).does("fill(2, 0, 1, 384)", "commit()", "fill(2, 384, 1, 128)", "cut(2, 384)")
                    .due("count(6)", 0);
            leafOfAnotherFile();
            withFile(64).does("fill(2, 0, 1, 5)").due("count(6)", 1).does("commit()", "write(2, 4, 0, 1)")
                    .due("count(6)", 1)
                    .does("write(2, 4, 29, 1)").due("count(6)", 0);
            withBoth(64).does("make(1, 2, false)", "fill(2, 0, 5, 128)", "fill(4, 0, 5, 128)", "commit()")
                    .due("about(2, 5)", 2)
                    .does("cut(2, 0)", "cut(4, 0)", "fill(4, 0, 5, 128)", "fill(2, 0, 5, 128)").due("about(2, 5)", 3)
                    .due("count(6)", 1);
        });
        says("Terms (15)", "(a STAT's body has kind, LINKS and SIZE, or how many entries; an ENTRY's its object)",
                () -> {
            withFile(64).does("unlink(1, 0)", "make(1, 0, true)").due("count(6)", 1)
                    .does("unlink(1, 0)", "make(1, 0, false)")
                    .due("count(6)", 0);
            withFile(64).does("fill(2, 0, 1, 50)", "commit()", "write(2, 50, 0, 1)").due("count(6)", 1)
                    .does("cut(2, 50)").due("count(6)", 0);
            named(390).row(0, "1:10:113 2:10:110 4:10:110 5:10:110 6:2:25").does("link(1, 395, 2)").due("count(6)", 2);
            named(390).does("unlink(1, 150)").due("count(6)", 3).does("link(1, 150, 2)").due("count(6)", 0);
            withFile(64).does("make(1, 1, false)", "commit()", "move(1, 0, 1, 5)", "move(1, 1, 1, 0)",
                    "move(1, 5, 1, 1)").due("look(1, 0)", 3)
                    .due("count(6)", 1).does("move(1, 0, 1, 5)", "move(1, 1, 1, 0)", "move(1, 5, 1, 1)")
                    .due("count(6)", 0);
            linksAlone();
        });
    }

    /** Files 2 and 60 have their items in different leaves: what changes of one changes nothing in the other's. */
    private void leafOfAnotherFile() {
        Run r = on(96, 64);
        for (int k = 2; k <= 60; k++) {
            r.does("make(1, " + k + ", false)");
        }
        r.does("fill(60, 0, 1, 41)", "commit()", "fill(2, 0, 1, 41)").due("count(6)", 3)
                .does("commit()", "fill(60, 0, 2, 200)")
                .due("count(6)", 4);
    }

    /** A name of the second leaf tells file 3 and no more file 2: of the last leaf, with their STATs, it is the LINKS. */
    private void linksAlone() {
        named(390).does("make(1, 395, false)", "commit()").row(0, "1:10:113 2:10:110 4:10:110 5:10:110 6:4:50")
                .does("unlink(1, 150)", "link(1, 150, 3)").due("count(6)", 2).does("unlink(1, 150)", "link(1, 150, 2)")
                .due("count(6)", 0);
    }

    private void innerNodes() {
        says("Terms (15)", "an inner node: its height, its children's blocks and the first key below each", () -> {
            named(390).does("unlink(1, 100)").due("count(6)", 3).does("back()", "unlink(1, 90)").due("count(6)", 4);
            named(390).does("unlink(1, 0)", "link(1, 1, 2)").due("count(6)", 1);
            named(980).does("unlink(1, 300)").due("count(6)", 3).does("back()", "unlink(1, 390)").due("count(6)", 4)
                    .does("back()", "unlink(1, 290)").due("count(6)", 5).does("link(1, 290, 2)").due("count(6)", 0);
            named(390).row(1, "3:5").does("link(1, 11, 2)").row(2, "9:2").due("count(6)", 7);
            Run shorter = named(980);
            for (int name = 490; name <= 580; name += 10) {
                shorter.does("unlink(1, " + name + ")");
            }
            shorter.row(1, "3:3 8:2 13:5").due("count(6)", 4);
            leafWhereAnInnerNodeWas();
        });
    }

    private void leafWhereAnInnerNodeWas() {
        Run r = on(96, 64).does("make(1, 0, false)");
        for (int name = 1; name <= 8; name++) {
            r.does("link(1, " + name + ", 2)");
        }
        r.row(0, "1:10:113 2:1:14").row(1, "3:2");
        for (int name = 8; name >= 4; name--) {
            r.does("unlink(1, " + name + ")");
        }
        r.row(0, "1:6:72").does("fill(2, 0, 1, 41)").due("about(2, 5)", 2);
        for (int name = 4; name <= 10; name++) {
            r.does("link(1, " + name + ", 2)");
        }
        r.row(0, "1:10:113 3:4:46").row(1, "4:2").does("commit()", "unlink(1, 10)").due("count(6)", 2)
                .does("back()", "unlink(1, 9)")
                .due("count(6)", 3);
    }

    private void data() {
        says("Terms (15)", "data: 128 bytes (0 where the file has none)", () -> {
            withFile(64).does("fill(2, 0, 1, 100)", "commit()", "fill(2, 100, 9, 20)").due("count(6)", 2)
                    .does("cut(2, 100)").due("count(6)", 0)
                    .does("fill(2, 100, 1, 1)", "cut(2, 100)").due("count(6)", 0);
            withFile(64).does("make(1, 1, false)", "fill(2, 0, 1, 100)", "fill(3, 0, 9, 200)", "commit()",
                    "write(2, 100, 0, 1)")
                    .due("count(6)", 1).does("write(3, 0, 8, 1)").due("count(6)", 2).does("cut(2, 100)")
                    .due("count(6)", 1);
            withFile(64).does("make(1, 1, false)", "fill(2, 0, 1, 128)", "fill(3, 0, 9, 300)", "fill(2, 128, 1, 72)",
                    "commit()")
                    .does("write(2, 200, 0, 1)").due("count(6)", 1);
            withFile(64).does("fill(2, 0, 1, 128)", "commit()", "write(2, 127, 0, 1)").due("count(6)", 1)
                    .does("cut(2, 127)")
                    .due("count(6)", 2).does("write(2, 127, " + (1 + 7 * 127) + ", 1)").due("count(6)", 0);
            withFile(64).does("fill(2, 0, 1, 255)", "commit()", "write(2, 255, 0, 1)").due("count(6)", 1)
                    .does("commit()", "write(2, 255, 1, 1)")
                    .due("count(6)", 1).does("write(2, 128, 1, 1)", "write(2, 127, 1, 1)").due("count(6)", 2);
        });
    }

    private void changed() {
        says("Terms (15, 17, 21)",
                "CHANGED are blocks in use that have other things in them than at the last commit, or were not in use "
                + "then", () -> {
            Run zeros = withFile(64);
            for (int at = 0; at < 48; at += 8) {
                zeros.does("write(2, " + at + ", 0, 8)");
            }
            zeros.due("about(2, 5)", 2).due("count(6)", 3).due("commit()", 5).due("count(6)", 0);
            withFile(64).does("fill(2, 0, 1, 200)", "commit()").due("count(6)", 0).does("unlink(1, 0)")
                    .due("count(6)", 2).due("commit()", 4)
                    .does("make(1, 0, false)", "fill(2, 0, 1, 200)").due("count(6)", 4);
            withFile(64).does("fill(2, 0, 1, 200)", "commit()", "cut(2, 0)", "fill(2, 0, 1, 200)").due("count(6)", 0)
                    .does("cut(2, 0)", "fill(2, 0, 2, 200)").due("count(6)", 2);
        });
        says("Terms (15)", "(data and nodes are always other things)", () -> {
            Run r = withFile(64).does("fill(2, 0, 0, 128)", "commit()", "cut(2, 0)");
            for (int name = 1; name <= 8; name++) {
                r.does("link(1, " + name + ", 2)");
            }
            r.row(0, "1:10:113 2:1:14").row(1, "3:2").due("count(6)", 4).due("commit()", 6);
            for (int name = 8; name >= 1; name--) {
                r.does("unlink(1, " + name + ")");
            }
            r.row(0, "1:3:39").due("count(6)", 2);
            for (int at = 0; at < 48; at += 8) {
                r.does("write(2, " + at + ", 0, 8)");
            }
            r.due("about(2, 5)", 2).due("count(6)", 3);
        });
    }

    private void roomOfTheJournal() {
        says("Terms (15)", "If there are any, and so many and two are not more than the JOURNAL has room for at all",
                () -> {
            withFile(6).does("fill(2, 0, 1, 256)").due("count(6)", 4).due("commit()", 6).due("count(7)", 6);
            withFile(6).does("fill(2, 0, 1, 257)").due("count(6)", 4).due("commit()", 6);
            withFile(6).does("fill(2, 0, 1, 384)").due("count(6)", 5).refused("commit()", STATE).does("cut(2, 256)")
                    .due("commit()", 6);
            withFile(7).does("fill(2, 0, 1, 384)").due("count(6)", 5).due("commit()", 7).due("count(7)", 7)
                    .does("fill(2, 0, 2, 512)")
                    .due("count(6)", 6).refused("commit()", STATE).due("count(7)", 7).due("back()", 6);
            withFile(6).due("commit()", 0).due("count(7)", 0).due("count(9)", 1);
        });
        says("Terms (15, 21)", "if they are more than it has room for now, a CHECKPOINT first", () -> {
            for (int journal = 6; journal <= 9; journal++) {
                Run r = withFile(journal).does("make(1, 1, true)").due("commit()", 3).due("count(7)", 3)
                        .does("make(1, 2, true)")
                        .due("commit()", 3).due("count(7)", 6).does("make(1, 3, true)");
                r.due("commit()", journal < 9 ? 2 + 3 : 3).due("count(7)", journal < 9 ? 3 : 9);
            }
            withFile(8).does("make(1, 1, true)").due("commit()", 3).does("fill(2, 0, 1, 41)").due("count(6)", 3)
                    .due("commit()", 5)
                    .due("count(7)", 8);
            withFile(7).does("make(1, 1, true)").due("commit()", 3).does("fill(2, 0, 1, 41)").due("commit()", 2 + 5)
                    .due("count(7)", 5);
        });
    }

    private void writesOfACommit() {
        says("Terms (15, 21)",
                "one block that begins, each CHANGED one by numbers, one that ends: these all are in the journal then, and the "
                + "COMMIT is done with the last of these writes", () -> {
            for (int n = 0; n <= 6; n++) {
                Run r = withBoth(64).does("fill(2, 0, 1, 200)", "fail(" + n + ")").due("count(6)", 4).due("commit()", n)
                        .due("off()", n < 6 ? 1 : 0);
                if (n < 6) {
                    r.due("recover()", 0).due("count(7)", 0).due("count(9)", 1).due("about(2, 2)", 0)
                            .due("count(0)", 2);
                    r.sameThings(withBoth(64));
                } else {
                    r.due("count(7)", 6).due("count(9)", 2).due("about(2, 2)", 200).due("count(6)", 0).due("back()", 0)
                            .due("about(2, 2)", 200);
                }
            }
        });
    }

    private void checkpoint() {
        says("Terms (15, 16)",
                "of all blocks that are in the journal (but those that begin or end) each one, by numbers, is written home once, "
                + "as it was committed last", () -> {
            withBoth(64).does("make(3, 0, false)", "commit()", "link(3, 1, 2)", "commit()", "link(3, 2, 2)", "commit()")
                    .due("count(7)", 9).due("checkpoint()", 2).due("count(7)", 0);
            withBoth(64).does("fill(2, 0, 1, 200)", "commit()", "write(2, 0, 9, 1)", "commit()", "make(1, 5, true)",
                    "commit()").due("count(7)", 12)
                    .due("checkpoint()", 5).does("write(2, 0, 8, 1)", "commit()").due("checkpoint()", 2);
            withBoth(64).does("fill(2, 0, 1, 200)", "commit()", "make(1, 5, true)").due("checkpoint()", 5)
                    .due("count(6)", 1).due("back()", 1);
        });
        says("Terms (15, 16)",
                "then one write empties the journal. (Nothing, if it is empty. Without the last write the journal is as it was.)",
                () -> {
                    withBoth(64).due("checkpoint()", 0).does("make(1, 5, true)").due("checkpoint()", 0).does("fail(0)")
                            .due("checkpoint()", 0)
                            .due("off()", 0).due("count(8)", 5);
                    for (int n = 0; n <= 5; n++) {
                        Run r = withBoth(64).does("fill(2, 0, 1, 200)", "commit()", "fail(" + n + ")")
                                .due("checkpoint()", n).due("off()", n < 5 ? 1 : 0);
                        if (n < 5) {
                            r.due("recover()", 5);
                        }
                        r.due("count(7)", 0).due("checkpoint()", 0).due("read(2, 199)", 1 + 7 * 199 & 255);
                    }
                    withBoth(64).does("fill(2, 0, 1, 200)", "commit()", "fail(4)").due("checkpoint()", 4)
                            .does("fail(4)").due("recover()", 4)
                            .due("off()", 1).due("recover()", 5).due("count(8)", 5 + 6 + 4 + 4 + 5);
                });
    }

    private void failing() {
        says("Terms (18)", "FAIL n: n more writes are done; the one behind these is not, and the power is OFF: what was not committed is lost",
                () -> {
                    withBoth(64).does("make(1, 5, true)", "fail(3)").due("commit()", 3).due("off()", 0)
                            .due("checkpoint()", 0).due("off()", 1)
                            .due("recover()", 2).due("look(1, 5)", 4);
                    withBoth(64).does("make(1, 5, true)", "fail(5)").due("commit()", 3).due("checkpoint()", 2)
                            .due("off()", 0)
                            .does("make(1, 6, true)").due("look(1, 6)", 5).due("commit()", 0).due("off()", 1)
                            .due("recover()", 0)
                            .due("look(1, 6)", -1).due("look(1, 5)", 4);
                    withBoth(64).does("fail(0)", "make(1, 5, true)", "fill(2, 0, 1, 9)", "unlink(1, 1)").due("off()", 0)
                            .due("look(1, 5)", 4)
                            .due("commit()", 0).due("off()", 1).due("recover()", 0).sameThings(withBoth(64));
                    withFile(6).does("make(1, 1, true)", "commit()", "make(1, 2, true)", "commit()", "make(1, 3, true)",
                            "fail(0)").due("commit()", 0)
                            .due("off()", 1).due("recover()", 2).due("count(3)", 4);
                });
    }

    private void recovered() {
        says("Terms (20)", "RECOVERED, all is as at the last COMMIT that was done; of one that was not, nothing is in the journal any more; then a "
                + "CHECKPOINT is made", () -> {
            for (int n = 0; n <= 4; n++) {
                Run r = withFile(6).does("make(1, 1, true)", "commit()", "make(1, 2, true)", "commit()",
                        "make(1, 3, true)");
                r.does("fail(" + n + ")").due("commit()", n).due("off()", 1).due("recover()", n < 2 ? 2 : 0)
                        .due("count(7)", 0)
                        .due("count(9)", 3).due("count(6)", 0).due("look(1, 3)", -1).due("look(1, 2)", 4);
                r.does("make(1, 3, true)").due("commit()", 3).due("count(7)", 3);
            }
            withBoth(64).does("make(1, 5, true)", "commit()", "fill(2, 0, 1, 500)", "fail(3)").due("commit()", 3)
                    .due("recover()", 2)
                    .due("count(7)", 0).due("about(2, 2)", 0).due("look(1, 5)", 4);
        });
    }

    private void commitCall() {
        says("15", "A COMMIT: how many writes were done in this call (0 if nothing is CHANGED). The power may go OFF in it", () -> {
            on(96, 64).due("commit()", 0).does("make(1, 0, false)").due("commit()", 3).due("commit()", 0)
                    .does("unlink(1, 0)")
                    .due("commit()", 3).due("count(9)", 2).does("make(1, 0, false)", "unlink(1, 0)").due("commit()", 0)
                    .due("count(9)", 2)
                    .does("fail(0)").due("commit()", 0).due("off()", 0).does("make(1, 0, false)").due("commit()", 0)
                    .due("off()", 1);
        });
        says("15", "IllegalStateException: CHANGED ones and two are more than the journal's blocks", () -> {
            withFile(6).does("make(1, 1, true)", "commit()", "fill(2, 0, 1, 384)", "fail(1)").due("count(6)", 5)
                    .refused("commit()", STATE)
                    .due("off()", 0).due("count(7)", 3).does("cut(2, 1)").due("commit()", 1).due("off()", 1);
            withFile(6).does("fail(0)", "fill(2, 0, 1, 384)").refused("commit()", STATE).due("off()", 0);
        });
    }

    private void checkpointCall() {
        says("16", "A CHECKPOINT: how many writes were done in this call. The power may go OFF in it",
                () -> withBoth(64)
                .does("make(1, 5, true)", "commit()", "fail(0)").due("checkpoint()", 0).due("off()", 1)
                .refused("checkpoint()", OFF)
                .does("recover()", "make(1, 6, true)", "commit()", "fail(1)").due("checkpoint()", 1).due("off()", 1)
                .does("recover()")
                .does("unlink(1, 6)", "commit()", "fail(2)").due("checkpoint()", 2).due("off()", 0).due("count(7)", 0));
    }

    private void backCall() {
        says("17", "All is as at the last commit: how many blocks were CHANGED", () -> {
            withBoth(64).due("back()", 0).does("make(1, 5, true)", "fill(2, 0, 1, 300)").due("back()", 5)
                    .due("back()", 0).sameThings(withBoth(64))
                    .due("count(8)", 5).due("make(1, 6, true)", 4);
            on(96, 64).does("make(1, 0, false)", "fill(2, 0, 1, 40)").due("back()", 1).due("count(3)", 1)
                    .due("count(5)", 14);
            withBoth(64).does("make(1, 5, true)", "commit()", "make(1, 6, true)").due("back()", 1).due("count(7)", 3)
                    .due("count(9)", 2)
                    .due("look(1, 5)", 4).due("checkpoint()", 2).does("make(1, 6, true)").due("back()", 1)
                    .due("look(1, 5)", 4);
            withBoth(64).does("make(1, 2, true)", "commit()", "move(1, 2, 3, 0)").due("back()", 1)
                    .due("move(1, 1, 4, 0)", 3);
            withBoth(64).does("make(3, 0, true)", "commit()", "move(3, 0, 1, 2)").due("back()", 1)
                    .refused("move(1, 1, 4, 0)", STATE);
            withBoth(6).does("fill(2, 0, 1, 512)").due("count(6)", 6).refused("commit()", STATE).due("back()", 6)
                    .due("commit()", 0);
            Run r = named(980).does("commit()");
            for (int name = 290; name <= 480; name += 10) {
                r.does("unlink(1, " + name + ")");
            }
            r.row(1, "3:4 13:5").due("back()", 5).sameThings(named(980));
            withBoth(64).does("fail(0)", "make(1, 5, true)").due("back()", 1).due("off()", 0).does("make(1, 5, true)")
                    .due("commit()", 0)
                    .due("off()", 1);
        });
    }

    private void failCall() {
        says("18", "FAIL n; NONE: the power does not fail", () -> withBoth(64)
                .does("make(1, 5, true)", "fail(0)", "fail(NONE)").due("commit()", 3)
                .due("off()", 0).does("make(1, 6, true)", "fail(1)", "fail(4)").due("commit()", 3).due("off()", 0)
                .does("unlink(1, 6)", "fail(2)")
                .due("commit()", 2).due("off()", 1).does("recover()", "unlink(1, 6)", "fail(greatest)")
                .due("commit()", 3).due("off()", 0));
        says("18", "(Also while it is OFF: it counts from recover() on. When the power goes OFF, no FAIL is told any more.)", () -> {
            Run dark = withBoth(64).does("make(1, 5, true)", "commit()", "make(1, 6, true)", "fail(1)", "commit()")
                    .due("off()", 1);
            dark.does("fail(1)").due("off()", 1).due("recover()", 1).due("off()", 1).due("recover()", 2).due("off()", 0)
                    .does("make(1, 6, true)")
                    .due("commit()", 3).due("off()", 0);
            Run later = withBoth(64)
                    .does("make(1, 5, true)", "commit()", "make(1, 6, true)", "fail(1)", "commit()", "fail(3)")
                    .due("recover()", 2)
                    .due("off()", 0).does("make(1, 6, true)").due("commit()", 1).due("off()", 1).due("recover()", 0)
                    .does("make(1, 6, true)")
                    .due("commit()", 3);
            later.due("off()", 0);
            withBoth(64).does("make(1, 6, true)", "fail(0)", "commit()", "fail(0)", "fail(NONE)").due("recover()", 0)
                    .does("make(1, 6, true)")
                    .due("commit()", 3).due("off()", 0);
        });
        says("18", "IllegalArgumentException: n is below NONE", () -> {
            withBoth(64).does("make(1, 5, true)").refused("fail(-2)", ARGUMENT).refused("fail(least)", ARGUMENT)
                    .due("fail(-1)", 0).does("fail(2)")
                    .refused("fail(-2)", ARGUMENT).due("commit()", 2).due("off()", 1).refused("fail(-2)", ARGUMENT)
                    .due("fail(0)", 0)
                    .refused("fail(least)", ARGUMENT).due("recover()", 0).does("make(1, 5, true)").due("commit()", 0)
                    .due("off()", 1);
        });
    }

    private void offCall() {
        says("19", "Whether the power is OFF", () -> withBoth(64).due("off()", 0).does("fail(0)").due("off()", 0)
                .does("make(1, 5, true)")
                .due("off()", 0).does("commit()").due("off()", 1).due("off()", 1).does("fail(5)").due("off()", 1)
                .does("recover()").due("off()", 0));
    }

    private void recoverCall() {
        says("20", "The power comes, and all is RECOVERED: how many writes were done in this call (the power may go OFF in it again)", () -> {
            for (int n = 0; n <= 3; n++) {
                Run r = withBoth(64).does("fill(2, 0, 1, 41)", "commit()", "unlink(1, 0)", "fail(0)", "commit()",
                        "fail(" + n + ")");
                r.due("recover()", n).due("off()", 1).refused("count(0)", OFF).due("recover()", 4).due("off()", 0)
                        .due("count(7)", 0)
                        .due("about(2, 2)", 41).due("count(8)", 5 + 5 + n + 4).due("count(9)", 2);
            }
            withBoth(64).does("fill(2, 0, 1, 41)", "commit()", "fail(0)", "checkpoint()", "fail(4)").due("recover()", 4)
                    .due("off()", 0)
                    .does("make(1, 5, true)").due("commit()", 0).due("off()", 1);
        });
        says("20", "IllegalStateException: it is not OFF", () -> on(16, 6).refused("recover()", STATE)
                .does("make(1, 0, true)", "fail(0)")
                .refused("recover()", STATE).does("commit()").due("recover()", 0).refused("recover()", STATE)
                .due("count(3)", 1));
    }

    private void countCall() {
        says("21", "6 blocks that are CHANGED, 7 blocks of the journal that are full", () -> withFile(64)
                .due("count(6)", 0).does("make(1, 1, true)")
                .due("count(6)", 1).due("count(7)", 0).does("commit()").due("count(6)", 0).due("count(7)", 3)
                .does("fill(2, 0, 1, 200)")
                .due("count(6)", 4).due("count(7)", 3).does("commit()").due("count(7)", 9).does("checkpoint()")
                .due("count(7)", 0));
    }
}

import java.util.ArrayList;
import java.util.Arrays;
import java.util.List;

/**
 * New objects that had the same calls, to be asked what they are like now. The document promises 512 calls of an object:
 * where one has had them, the next one is asked.
 */
final class Replay {
    static final int MOST_CALLS = 512;
    private static final int MOST_STIRS = 60;
    private static final int MOST_COMMITS = 12;
    /** So many calls may be had before: behind them there is room for what is tried, and for questions. */
    static final int MOST_BEFORE = 400;
    private final int blocks;
    private final int journal;
    private final List<Call> had;
    private PackedTree asked;
    private int used = MOST_CALLS;
    private int stirs = 0;

    Replay(int blocks, int journal, List<Call> calls) {
        this.blocks = blocks;
        this.journal = journal;
        this.had = new ArrayList<>(calls);
    }

    private String ask(String name, long... args) {
        if (used >= MOST_CALLS) {
            asked = new PackedTree(blocks, journal);
            for (Call call : had) {
                call.answer(asked);
            }
            used = had.size();
        }
        used++;
        return new Call(name, args).answer(asked);
    }

    /** One call more that all objects have from now on. */
    String does(String name, long... args) {
        String answer = ask(name, args);
        had.add(new Call(name, args));
        return answer + " ";
    }

    private int number(String name, long... args) {
        String answer = ask(name, args);
        return answer.matches("-?\\d+") ? Integer.parseInt(answer) : 0;
    }

    private boolean isThere(String name, long... args) {
        return Character.isDigit(ask(name, args).charAt(0));
    }

    String whole() {
        StringBuilder s = new StringBuilder(ask("off")).append(' ');
        for (int what = 0; what <= 9; what++) {
            s.append(ask("count", what)).append(' ');
        }
        return s.append(things()).toString();
    }

    /** All nodes, items and objects. */
    String things() {
        StringBuilder s = new StringBuilder();
        for (int h = number("count", 2) - 1; h >= 0; h--) {
            s.append("| ").append(row(h)).append(" ^ ").append(parents(h)).append(' ');
        }
        s.append("| ");
        int items = number("count", 4);
        for (int k = 0; k < items; k++) {
            s.append(answers("item", 5, k));
        }
        for (int object = 1; object <= 60; object++) {
            if (isThere("about", object, 0)) {
                s.append("| ").append(object).append(": ").append(objectOf(object));
            }
        }
        return s.toString();
    }

    private String answers(String name, int whats, long... args) {
        StringBuilder s = new StringBuilder();
        long[] all = Arrays.copyOf(args, args.length + 1);
        for (int what = 0; what < whats; what++) {
            all[args.length] = what;
            s.append(ask(name, all)).append(what + 1 < whats ? ',' : ' ');
        }
        return s.toString();
    }

    private String objectOf(int object) {
        StringBuilder s = new StringBuilder(answers("about", 5 + number("about", object, 3), object));
        int size = number("about", object, 2);
        boolean file = number("about", object, 0) == 1;
        for (int k = 0; k < size; k++) {
            if (file) {
                s.append(ask("read", object, k)).append(' ');
            } else {
                int name = number("name", object, k);
                s.append(name).append('>').append(ask("look", object, name)).append(' ');
            }
        }
        return s.toString();
    }

    /** Of each node of a height its block, how many items or children it has and, of a leaf, USED. */
    String row(int height) {
        StringBuilder s = new StringBuilder();
        for (int k = 0; isThere("node", height, k, 0); k++) {
            s.append(k > 0 ? " " : "").append(ask("node", height, k, 0)).append(':').append(ask("node", height, k, 1));
            s.append(height == 0 ? ":" + ask("node", height, k, 2) : "");
        }
        return s.toString();
    }

    /** The blocks of the parents of all nodes of a height. */
    String parents(int height) {
        StringBuilder s = new StringBuilder();
        for (int k = 0; isThere("node", height, k, 0); k++) {
            s.append(k > 0 ? " " : "").append(ask("node", height, k, 3));
        }
        return s.toString();
    }

    /** What later calls find, all over the tree: files shrink and grow, names go and come, directories move. */
    String stirred() {
        StringBuilder s = new StringBuilder();
        for (int object = 1; object <= 60; object++) {
            if (isThere("about", object, 0)) {
                s.append(number("about", object, 0) == 1 ? stirredFile(object) : stirredDirectory(object));
            }
        }
        return s.append(things()).toString();
    }

    private String stirredFile(int file) {
        int size = number("about", file, 2);
        return tries("cut", file, size / 2) + tries("fill", file, size / 2, 3, 30);
    }

    private String stirredDirectory(int dir) {
        StringBuilder s = new StringBuilder();
        int names = number("about", dir, 2);
        for (int k = names - 1; k >= 0; k -= 3) {
            int name = number("name", dir, k);
            int object = number("look", dir, name);
            for (int to = 1; to <= 6 && isThere("name", object, 0); to++) {
                s.append(tries("move", dir, name, to, 700 + to));
            }
            s.append(tries("unlink", dir, name)).append(tries("make", dir, name + 1, 0));
        }
        return s.toString();
    }

    private String tries(String name, long... args) {
        stirs++;
        return stirs <= MOST_STIRS ? does(name, args) : "";
    }

    /** New files committed until the power goes OFF, if it does: their numbers and blocks are told, too. */
    String writesToCome() {
        StringBuilder s = new StringBuilder();
        for (int k = 0; k < MOST_COMMITS && ask("off").equals("0"); k++) {
            s.append(does("make", 1, 980 + k, 0)).append(does("commit")).append(ask("count", 7)).append(' ');
        }
        return s.append(ask("off")).toString();
    }
}
